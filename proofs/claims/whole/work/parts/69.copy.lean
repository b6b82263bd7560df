/-! BUCKETS OF THE REFERENCE: frames, copy -/
section CO
variable {w w' : Wd} {m S : Nat} {le : Int32} {sc : Nat → Int32} {cl : Nat → ClD} {mem kept : Nat → Nat → BkD} {up dy : Nat → Bool} {row : List Ltr} {held : Nat → List Ltr} {fl : List (Nat × Ltr)}
/-- servers' marks and buckets anew -/
theorem RMF.re (h : RMF w m S le sc cl mem kept up dy row held fl) {mem' kept' : Nat → Nat → BkD} {up' dy' : Nat → Bool} (g : Mx m (fun q => m + 11 ≤ q ∧ q ≤ m + 23) w w') (hm : ∀ s, s < S → wI w' (m + 22) s = bI (up' s) ∧ wI w' (m + 23) s = bI (dy' s)) (hb : ∀ s b, s < S → b < 8 → (up' s = true → BKM w' m (16 * s + b) (mem' s b)) ∧ BKM w' m (16 * s + 8 + b) (kept' s b)) : RMF w' m S le sc cl mem' kept' up' dy' row held fl ∧ Mf m w w' := by
  obtain ⟨p0, p1, p2, p3, p4, p5⟩ := h.pieces g
  exact ⟨⟨p1 (by omega), p2 (fun j a b => by omega), hm, hb, p5 (by omega) (fun j a b => by omega)⟩, g.mf⟩
/-- only bucket a's cells were written -/
def BkF (m a : Nat) (w w' : Wd) : Prop := Mx m (fun q => m + 11 ≤ q ∧ q ≤ m + 21) w w' ∧ (∀ j i, j = 11 ∨ j = 12 ∨ j = 13 ∨ j = 15 → i ≠ a → wI w' (m + j) i = wI w (m + j) i) ∧ (∀ i, (i < 4 * a ∨ 4 * a + 4 ≤ i) → wL w' (m + 14) i = wL w (m + 14) i) ∧ (∀ p i, 16 ≤ p → p ≤ 19 → (i < 12 * a ∨ 12 * a + 12 ≤ i) → wI w' (m + p) i = wI w (m + p) i ∧ wL w' (m + p) i = wL w (m + p) i) ∧ (∀ p i, p = 20 ∨ p = 21 → (i < 6 * a ∨ 6 * a + 6 ≤ i) → wI w' (m + p) i = wI w (m + p) i)
theorem BkF.rf {a : Nat} : BkF m a w w := ⟨Mx.rf (fun q hq => by omega), fun _ _ _ _ => rfl, fun _ _ => rfl, fun _ _ _ _ _ => ⟨rfl, rfl⟩, fun _ _ _ _ => rfl⟩
theorem BkF.tr {a : Nat} {w1 : Wd} (h1 : BkF m a w w1) (h2 : BkF m a w1 w') : BkF m a w w' := by
  obtain ⟨a1, a2, a3, a4, a5⟩ := h1
  obtain ⟨b1, b2, b3, b4, b5⟩ := h2
  exact ⟨a1.tr b1, fun j i x y => (b2 j i x y).trans (a2 j i x y), fun i x => (b3 i x).trans (a3 i x), fun p i x y z => ⟨(b4 p i x y z).1.trans (a4 p i x y z).1, (b4 p i x y z).2.trans (a4 p i x y z).2⟩, fun p i x y => (b5 p i x y).trans (a5 p i x y)⟩
theorem BkF.sI {a j : Nat} {v : Int32} {w1 : Wd} (h : BkF m a w w1) (hj : j = 11 ∨ j = 12 ∨ j = 13 ∨ j = 15) : BkF m a w (sI w1 (m + j) a v) := by
  obtain ⟨a1, a2, a3, a4, a5⟩ := h
  refine ⟨a1.sI (by omega), fun p i x y => ?_, a3, fun p i x y z => ⟨?_, (a4 p i x y z).2⟩, fun p i x y => ?_⟩
  · rw [wI_s, if_neg (fun z => y z.2)]; exact a2 p i x y
  · rw [wI_s, if_neg (by omega)]; exact (a4 p i x y z).1
  · rw [wI_s, if_neg (by omega)]; exact a5 p i x y
theorem BkF.l14 {a : Nat} {w1 : Wd} (h : BkF m a w w1) (x : Mx m (fun q => q = m + 14) w1 w') (e : wI w' = wI w1) (vo : ∀ i, (i < 4 * a ∨ 4 * a + 4 ≤ i) → wL w' (m + 14) i = wL w1 (m + 14) i) : BkF m a w w' := by
  refine h.tr ⟨x.mono (fun q hq => by omega) (fun q hq => by omega), fun j i _ _ => by rw [e], vo, fun p i b c d => ⟨by rw [e], by rw [x.L (by omega)]⟩, fun p i b c => by rw [e]⟩
theorem BkF.l16 {a : Nat} {w1 : Wd} (h : BkF m a w w1) (x : Mx m (fun q => m + 16 ≤ q ∧ q ≤ m + 19) w1 w') (ro : ∀ p i, 16 ≤ p → p ≤ 19 → (i < 12 * a ∨ 12 * a + 12 ≤ i) → wI w' (m + p) i = wI w1 (m + p) i ∧ wL w' (m + p) i = wL w1 (m + p) i) : BkF m a w w' := by
  refine h.tr ⟨x.mono (fun q hq => by omega) (fun q hq => by omega), fun j i _ _ => by rw [x.I (by omega)], fun i _ => by rw [x.L (by omega)], ro, fun p i b c => by rw [x.I (by omega)]⟩
theorem BkF.l20 {a : Nat} {w1 : Wd} (h : BkF m a w w1) (x : Mx m (fun q => q = m + 20 ∨ q = m + 21) w1 w') (ko : ∀ p i, p = 20 ∨ p = 21 → (i < 6 * a ∨ 6 * a + 6 ≤ i) → wI w' (m + p) i = wI w1 (m + p) i) : BkF m a w w' := by
  refine h.tr ⟨x.mono (fun q hq => by omega) (fun q hq => by omega), fun j i _ _ => by rw [x.I (by omega)], fun i _ => by rw [x.L (by omega)], fun p i b c d => ⟨by rw [x.I (by omega)], by rw [x.L (by omega)]⟩, ko⟩
theorem BKM.fr {a a' : Nat} {d : BkD} (h : BKM w m a' d) (g : BkF m a w w') (hne : a' ≠ a) : BKM w' m a' d := by
  obtain ⟨g1, g2, g3, g4, g5⟩ := g
  obtain ⟨h1, h2, h3, h4, h5, h6, h7, h8, h9⟩ := h
  have hlt : a' < a ∨ a < a' := by omega
  refine ⟨by rw [g2 11 _ (by omega) hne]; exact h1, by rw [g2 12 _ (by omega) hne]; exact h2, by rw [g2 13 _ (by omega) hne]; exact h3, by rw [g2 15 _ (by omega) hne]; exact h4, h5, fun k hk => by rw [g3 _ (by omega)]; exact h6 k hk, fun i r hi => ?_, fun c hc => by rw [g5 20 _ (by omega) (by omega)]; exact h8 c hc, fun c hc => by rw [g5 21 _ (by omega) (by omega)]; exact h9 c hc⟩
  have hil : i < 12 := by have := (List.getElem?_eq_some_iff.mp hi).1; omega
  rw [← h7 i r hi]
  have n : 12 * a' + i < 12 * a ∨ 12 * a + 12 ≤ 12 * a' + i := by omega
  unfold recM
  rw [(g4 16 _ (by omega) (by omega) n).1, (g4 17 _ (by omega) (by omega) n).1, (g4 18 _ (by omega) (by omega) n).1, (g4 19 _ (by omega) (by omega) n).2]
theorem m_copy_loop {p q : Nat} {d : Nat → BkD} (hp : p < 8) (hq : q < 8) (hne : p ≠ q) : ∀ (n j : Nat) (w : Wd), 8 < n + j → j ≤ 8 → isM w m → (∀ b, b < 8 → BKM w m (8 * p + b) (d b)) → ok (f_X6_copy_2 n m (nI p) (nI q) (nI j) w) (fun _ w' => isM w' m ∧ Mx m (fun q => m + 11 ≤ q ∧ q ≤ m + 21) w w' ∧ (∀ b, j ≤ b → b < 8 → BKM w' m (8 * q + b) (d b)) ∧ (∀ a' d', (a' < 8 * q + j ∨ 8 * q + 8 ≤ a') → BKM w m a' d' → BKM w' m a' d')) := by
  intro n
  induction n with
  | zero => intro j w a b; omega
  | succ n ih =>
    intro j w a b hM hd
    rw [f_X6_copy_2.eq_2]
    refine ok_if (fun c => ?_) (fun c => ?_)
    · rw [show (8 : Int32) = nI 8 from rfl, nI_leI (by omega) (by omega)] at c
      exact ok_ret ⟨hM, Mx.rf (fun q hq => by omega), fun b h1 h2 => by omega, fun _ _ _ h => h⟩
    · rw [show (8 : Int32) = nI 8 from rfl, nI_leI (by omega) (by omega)] at c
      have hdj := hd j (by omega)
      obtain ⟨h1, h2, h3, h4, h5, h6, h7, h8, h9⟩ := hdj
      have hf : 8 * p + j < 64 := by omega
      have ht : 8 * q + j < 64 := by omega
      have hft : 8 * p + j ≠ 8 * q + j := by omega
      refine ok_mR hM 11 <| ok_mR hM 11 <| ok_mA hM (i8' p j) hf h1 <| ok_mT hM (i8' q j) ht (fun hM1 => ?_)
      have g1 : BkF m (8 * q + j) w _ := BkF.rf.sI (j := 11) (v := (d j).1) (by omega)
      refine ok_mR hM1 12 <| ok_mR hM1 12 <| ok_mA (v := (d j).2.1) hM1 (i8' p j) hf (by rw [wI_so (by omega)]; exact h2) <| ok_mT hM1 (i8' q j) ht (fun hM2 => ?_)
      have g2 := g1.sI (j := 12) (v := (d j).2.1) (by omega)
      refine ok_mR hM2 13 <| ok_mR hM2 13 <| ok_mA (v := (d j).2.2.1) hM2 (i8' p j) hf (by rw [wI_so (by omega), wI_so (by omega)]; exact h3) <| ok_mT hM2 (i8' q j) ht (fun hM3 => ?_)
      have g3 := g2.sI (j := 13) (v := (d j).2.2.1) (by omega)
      refine ok_mR hM3 15 <| ok_mR hM3 15 <| ok_mA (v := nI (d j).2.2.2.2.1.length) hM3 (i8' p j) hf (by rw [wI_so (by omega), wI_so (by omega), wI_so (by omega)]; exact h4) <| ok_mT hM3 (i8' q j) ht (fun hM4 => ?_)
      have g4 := g3.sI (j := 15) (v := nI (d j).2.2.2.2.1.length) (by omega)
      have F : wI (sI (sI (sI (sI w (m + 11) (8 * q + j) (d j).1) (m + 12) (8 * q + j) (d j).2.1) (m + 13) (8 * q + j) (d j).2.2.1) (m + 15) (8 * q + j) (nI (d j).2.2.2.2.1.length)) (m + 11) (8 * q + j) = (d j).1 ∧ wI (sI (sI (sI (sI w (m + 11) (8 * q + j) (d j).1) (m + 12) (8 * q + j) (d j).2.1) (m + 13) (8 * q + j) (d j).2.2.1) (m + 15) (8 * q + j) (nI (d j).2.2.2.2.1.length)) (m + 12) (8 * q + j) = (d j).2.1 ∧ wI (sI (sI (sI (sI w (m + 11) (8 * q + j) (d j).1) (m + 12) (8 * q + j) (d j).2.1) (m + 13) (8 * q + j) (d j).2.2.1) (m + 15) (8 * q + j) (nI (d j).2.2.2.2.1.length)) (m + 13) (8 * q + j) = (d j).2.2.1 ∧ wI (sI (sI (sI (sI w (m + 11) (8 * q + j) (d j).1) (m + 12) (8 * q + j) (d j).2.1) (m + 13) (8 * q + j) (d j).2.2.1) (m + 15) (8 * q + j) (nI (d j).2.2.2.2.1.length)) (m + 15) (8 * q + j) = nI (d j).2.2.2.2.1.length := by simp [wI_s]
      rw [i8' p j, i8' q j]
      generalize sI (sI (sI (sI w (m + 11) (8 * q + j) (d j).1) (m + 12) (8 * q + j) (d j).2.1) (m + 13) (8 * q + j) (d j).2.2.1) (m + 15) (8 * q + j) (nI (d j).2.2.2.2.1.length) = w4 at hM4 g4 F ⊢
      have hs4 : BKM w4 m (8 * p + j) (d j) := (hd j (by omega)).fr g4 hft
      obtain ⟨-, -, -, -, -, s6, s7, s8, s9⟩ := hs4
      refine l_copy_83 hf ht hft FU 0 w4 (by unfold FU; omega) (by omega) hM4 (fun wa qa xa ia oa na _ => ?_)
      unfold f_X6_copy_119
      refine l_copy_122 hf ht hft FU 0 wa (by unfold FU; omega) (by omega) qa (fun wb qb xb ob nb _ => ?_)
      unfold f_X6_copy_239
      refine l_copy_242 hf ht hft FU 0 wb (by unfold FU; omega) (by omega) qb (fun wc qc xc ic oc nc _ => ?_)
      have gc : BkF m (8 * q + j) w wc := ((g4.l14 xa ia oa).l16 xb ob).l20 xc oc
      have I : ∀ e i, e = 11 ∨ e = 12 ∨ e = 13 ∨ e = 15 → wI wc (m + e) i = wI w4 (m + e) i := fun e i he => by rw [xc.I (by omega), xb.I (by omega), ia]
      have hB : BKM wc m (8 * q + j) (d j) := by
        refine ⟨by rw [I 11 _ (by omega)]; exact F.1, by rw [I 12 _ (by omega)]; exact F.2.1, by rw [I 13 _ (by omega)]; exact F.2.2.1, by rw [I 15 _ (by omega)]; exact F.2.2.2, h5, fun k hk => ?_, fun i r hi => ?_, fun e he => ?_, fun e he => ?_⟩
        · rw [ic, xb.L (by omega), na k hk (by omega)]; exact s6 k hk
        · have hil : i < 12 := by have := (List.getElem?_eq_some_iff.mp hi).1; omega
          rw [← s7 i r hi]
          have e1 : recM wc m (8 * q + j) i = rec4 wb m 16 (8 * q + j) i := by
            unfold recM rec4
            rw [xc.I (q := m + 16) (by omega), xc.I (q := m + 17) (by omega), xc.I (q := m + 18) (by omega), ic]
          have e2 : rec4 wa m 16 (8 * p + j) i = recM w4 m (8 * p + j) i := by
            unfold recM rec4
            rw [ia, xa.L (q := m + (16 + 3)) (by omega)]
          rw [e1, nb i hil (by omega), e2]
        · rw [(nc e he (by omega)).1, xb.I (by omega), ia]; exact s8 e he
        · rw [(nc e he (by omega)).2, xb.I (by omega), ia]; exact s9 e he
      unfold f_X6_copy_307
      rw [nI_1]
      refine ok_mono (ih (j + 1) wc (by omega) (by omega) qc (fun b hb => (hd b hb).fr gc (by rcases Nat.lt_or_gt_of_ne hne with z | z <;> omega))) (fun _ w' z => ⟨z.1, gc.1.tr z.2.1, fun b hb1 hb2 => ?_, fun a' d' ha h => ?_⟩)
      · by_cases e : b = j
        · subst e; exact z.2.2.2 _ _ (by omega) hB
        · exact z.2.2.1 b (by omega) hb2
      · exact z.2.2.2 a' d' (by omega) (h.fr gc (by omega))
theorem m_copy {p q : Nat} {d : Nat → BkD} (hp : p < 8) (hq : q < 8) (hne : p ≠ q) (hM : isM w m) (hd : ∀ b, b < 8 → BKM w m (8 * p + b) (d b)) : ok (f_X6_copy m (nI p) (nI q) w) (fun _ w' => isM w' m ∧ Mx m (fun q => m + 11 ≤ q ∧ q ≤ m + 21) w w' ∧ (∀ b, b < 8 → BKM w' m (8 * q + b) (d b)) ∧ (∀ a' d', (a' < 8 * q ∨ 8 * q + 8 ≤ a') → BKM w m a' d' → BKM w' m a' d')) := by
  unfold f_X6_copy
  exact ok_mono (m_copy_loop hp hq hne FU 0 w (by unfold FU; omega) (by omega) hM hd) (fun _ w' z => ⟨z.1, z.2.1, fun b hb => z.2.2.1 b (by omega) hb, z.2.2.2⟩)
end CO
