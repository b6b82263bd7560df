/-! ANSWERS ARE SENT -/
section AN
variable {w w' : Wd} {o m S : Nat} {le : Int32} {sc : Nat → Int32} {cl : Nat → ClD} {mem kept : Nat → Nat → BkD} {up cn dy : Nat → Bool} {row : List Ltr} {held : Nat → List Ltr} {fl : List (Nat × Ltr)}
def mkAns (s c : Nat) (i n code : Int32) (v : Int64) : Ltr := ((2, nI c, nI s), (i, n, code), (0, 0, v, 0), noLoad)
theorem c_answer (h : RC w o S le sc cl mem kept up cn row held) {x s c : Nat} {t : Ltr} (hx : LTC w x t) (h1 : t.1.1 = 1) (hT : aMo o S + 45 ≤ x) (hn : x < wn w) (hs : s < S) (hc : t.1.2.2 = nI c) (hh : (held s).length < 512) (code : Int32) (v : Int64) : ok (f_X5_answer o (some (aSv o s)) (some x) code v w) (fun _ w' => RC w' o S le (sfL (!cn s) sc row) cl mem kept up cn (sfR (!cn s) row (mkAns s c t.2.1.1 t.2.1.2.1 code v)) (sfH (!cn s) held s (mkAns s c t.2.1.1 t.2.1.2.1 code v)) ∧ Cf o S w w') := by
  have hz : wn w ≤ wn w := Nat.le_refl _
  have hW := h.1.2.2.2
  unfold f_X5_answer
  refine ok_new h.1.2.2.1 (fun w1 g1 c1 => ?_)
  obtain ⟨r1, f1⟩ := h.nw g1
  have x1 := hx.cf hT hn f1
  have s1 := (r1.2.2.1 s hs).1
  refine ok_gI x1.1.1 (x1.1.2.2.2.trans hc) <| ok_gI s1.1 s1.2.1 <| ok_ini g1 c1 hz (fun w2 g2 c2 => ?_)
  have x2 := hx.cf hT hn (h.nw g2).2
  refine ok_gI x2.1.1 (x2.2.1 h1).1 <| ok_nI g2 c2 hz (fun w3 g3 c3 => ?_)
  have x3 := hx.cf hT hn (h.nw g3).2
  refine ok_gI x3.1.1 (x3.2.1 h1).2.1 <| ok_nI g3 c3 hz (fun w4 g4 c4 => ok_nI g4 c4 hz (fun w5 g5 c5 => ok_nL g5 c5 hz (fun w6 g6 c6 => ?_)))
  obtain ⟨r6, f6⟩ := h.nw g6
  obtain ⟨d1, d2, d3, d4, d5⟩ := c6
  have ht : LTC w6 (wn w) (mkAns s c t.2.1.1 t.2.1.2.1 code v) := ⟨⟨d1, by rw [d3]; rfl, by rw [d3]; rfl, by rw [d3]; rfl⟩, fun e => absurd (show (2 : Int32) = 1 from e) (by decide), fun _ => ⟨by rw [d3]; rfl, by rw [d3]; rfl, by rw [d3]; rfl, by rw [d4]; rfl⟩, fun e => absurd (show (2 : Int32) = 3 from e) (by decide), fun e => absurd (show (2 : Int32) = 4 from e) (by decide), fun e => absurd (show (2 : Int32) = 5 from e) (by decide)⟩
  exact ok_chk r6.2.1.1.1 <| ok_call (c_sendFrom r6 hs hh ht hW d2) (fun _ w7 z => ok_ret ⟨z.1, f6.tr z.2⟩)
theorem RMF.inh (h : RMF w m S le sc cl mem kept up dy row held fl) {l : Nat} {t : Ltr} (hl : (l, t) ∈ fl) : LTM w m l t := by
  obtain ⟨-, -, -, -, Lr, Lh, -, -, -, h8⟩ := h
  exact h8 l t hl
theorem m_answer (h : RMF w m S le sc cl mem kept up dy row held fl) (h4 : S ≤ 4) (hfl : fl.length ≤ 600) {l s c : Nat} {t : Ltr} (hl : (l, t) ∈ fl) (hs : s < S) (hc : t.1.2.2 = nI c) (hh : (held s).length < 600) (code : Int32) (v : Int64) : ok (f_X6_answer m (nI s) (nI l) code v w) (fun _ w' => RMF w' m S le (sfL (dy s) sc row) cl mem kept up dy (sfR (dy s) row (mkAns s c t.2.1.1 t.2.1.2.1 code v)) (sfH (dy s) held s (mkAns s c t.2.1.1 t.2.1.2.1 code v)) fl ∧ Mf m w w') := by
  have hM := h.1.1
  have ht := h.inh hl
  have hl4 := ht.1.1
  unfold f_X6_answer
  refine ok_mR hM 27 <| ok_mA hM rfl hl4 (ht.1.2.2.2.2.1.trans hc) <| ok_chk hM.1 <| ok_call (m_letter h h4 hfl 2 (nI c) (nI s)) (fun v1 w1 z => ?_)
  obtain ⟨p, rfl, hp, h0, g, ⟨u1, u2, u3, u4⟩, -, v6, v7⟩ := z
  have hne : l ≠ p := fun e => by subst e; exact absurd (h0.symm.trans ht.1.2.1) (by decide)
  have hM1 := hM.f g.mf
  have ht1 := ht.slot g hne
  refine ok_mR hM1 28 <| ok_mR hM1 28 <| ok_mA hM1 rfl hl4 ht1.1.2.2.2.2.2.1 <| ok_mT hM1 rfl hp (fun hM2 => ?_)
  have g2 := g.sI (j := 28) (v := t.2.1.1) (by omega) (by omega)
  have ht2 := ht.slot g2 hne
  refine ok_mR hM2 29 <| ok_mR hM2 29 <| ok_mA hM2 rfl hl4 ht2.1.2.2.2.2.2.2 <| ok_mT hM2 rfl hp (fun hM3 => ok_mR hM3 30 <| ok_mT hM3 rfl hp (fun hM4 => ok_mR hM4 33 <| ok_mTL hM4 rfl hp (fun hM5 => ok_chk hM5.1 ?_)))
  have g5 := ((g2.sI (j := 29) (v := t.2.1.2.1) (by omega) (by omega)).sI (j := 30) (v := code) (by omega) (by omega)).sL (j := 33) (v := v) (by omega) (by omega)
  obtain ⟨hA, fA⟩ := h.alloc (t := mkAns s c t.2.1.1 t.2.1.2.1 code v) hp h0 g5 ⟨⟨hp, by simpa [wI_s, (wsL _ _ _ _).2.2.2.1] using u1, by simpa [wI_s, (wsL _ _ _ _).2.2.2.1, mkAns] using u2, by simpa [wI_s, (wsL _ _ _ _).2.2.2.1, mkAns] using u3, by simpa [wI_s, (wsL _ _ _ _).2.2.2.1, mkAns] using u4, by simp [wI_s, (wsL _ _ _ _).2.2.2.1, mkAns], by simp [wI_s, (wsL _ _ _ _).2.2.2.1, mkAns]⟩, fun e => absurd (show (2 : Int32) = 1 from e) (by decide), fun _ => ⟨by simp [wI_s, (wsL _ _ _ _).2.2.2.1, mkAns], by simp [wL_s, mkAns]⟩, fun e => absurd (show (2 : Int32) = 3 from e) (by decide), fun e => absurd (show (2 : Int32) = 4 from e) (by decide)⟩
  exact ok_call (m_sendFrom hA h4 hs hh) (fun _ w5 z => ok_ret ⟨z.1, fA.tr z.2⟩)
/-! KNOWN, in the reference -/
def rmQ (c f : Int32) (y : Bool) (r : Rec) : Bool := !(decide (r.1 = c) && (y || decide (r.2.2.1 < f)))
theorem m_know92 {a c : Nat} {f : Int32} (y : Bool) (ha : a < 64) : ∀ (n : Nat) (L1 L2 : List Rec) (w : Wd) (d : BkD), L1.length < n → isM w m → BKM w m a d → d.2.2.2.2.1 = L1 ++ L2 → ok (f_X6_know_92 n m (nI a) (nI c) f (bI y) (nI L1.length - 1) w) (fun _ w' => isM w' m ∧ BkF m a w w' ∧ BKM w' m a (wr d (L1.filter (rmQ (nI c) f y) ++ L2))) := by
  intro n
  induction n with
  | zero => intro L1 L2 w d h1; omega
  | succ n ih =>
    intro L1 L2 w d h1 hM hB hrs
    rw [f_X6_know_92.eq_2]
    rcases List.eq_nil_or_concat L1 with rfl | ⟨L, r, rfl⟩
    · refine ok_t (by decide) <| ok_ret ⟨hM, BkF.rf, ?_⟩
      have e0 : wr d (List.filter (rmQ (nI c) f y) [] ++ L2) = d := wr_id hrs
      rw [e0]; exact hB
    · have hlen : (L.concat r).length = L.length + 1 := List.length_concat
      have hll : L.length < 12 := by
        have := hB.2.2.2.2.1
        rw [hrs, List.length_append, hlen] at this; omega
      have hrec : recM w m a L.length = r := hB.2.2.2.2.2.2.1 _ _ (by rw [hrs]; exact get_snoc L L2 r)
      have hr1 : wI w (m + 16) (12 * a + L.length) = r.1 := by rw [← hrec]; rfl
      have hr3 : wI w (m + 18) (12 * a + L.length) = r.2.2.1 := by rw [← hrec]; rfl
      have hb : 12 * a + L.length < 768 := by omega
      have e9 : nI L.length + (-1) = nI L.length - 1 := by rw [Int32.sub_eq_add_neg]
      rw [hlen, nI_pred]
      have keep : rmQ (nI c) f y r = true → ok (f_X6_know_141 (f_X6_know_92 n) m (nI a) (nI c) f (bI y) (nI L.length) w) (fun _ w' => isM w' m ∧ BkF m a w w' ∧ BKM w' m a (wr d ((L.concat r).filter (rmQ (nI c) f y) ++ L2))) := by
        intro hp
        unfold f_X6_know_141
        rw [e9, fil_snoc, hp]
        exact ih L (r :: L2) w d (by rw [hlen] at h1; omega) hM hB (by rw [hrs, List.concat_eq_append, List.append_assoc]; rfl)
      have rem : rmQ (nI c) f y r = false → ok (f_X6_know_134 (f_X6_know_92 n) m (nI a) (nI c) f (bI y) (nI L.length) w) (fun _ w' => isM w' m ∧ BkF m a w w' ∧ BKM w' m a (wr d ((L.concat r).filter (rmQ (nI c) f y) ++ L2))) := by
        intro hp
        unfold f_X6_know_134
        refine ok_chk hM.1 <| ok_call (m_forget ha hM hB (i := L.length) (by rw [hrs, List.length_append, hlen]; omega)) (fun _ w1 z => ?_)
        obtain ⟨z1, z2, z3⟩ := z
        rw [hrs, era_snoc] at z3
        unfold f_X6_know_141
        rw [e9, fil_snoc, hp]
        exact ok_mono (ih L L2 w1 _ (by rw [hlen] at h1; omega) z2 z3 rfl) (fun _ w2 u => ⟨u.1, z1.tr u.2.1, u.2.2⟩)
      refine ok_f (nI_pos (by omega)) <| ok_mR hM 16 <| ok_mA hM (i12 _ _) hb hr1 <| ok_if (fun c1 => ?_) (fun c1 => keep (by simp [rmQ, c1]))
      cases y with
      | false =>
        refine ok_t rfl <| ok_mR hM 18 <| ok_mA hM (i12 _ _) hb hr3 <| ok_if (fun c2 => keep ?_) (fun c2 => rem ?_)
        · simp [rmQ, c1]; exact c2
        · simp [rmQ, c1]; exact Int32.not_le.mp c2
      | true => exact ok_f (by decide) (rem (by simp [rmQ, c1]))
/-- what a bucket knows of client c, at incarnation i and FIRST f -/
def knD (d : BkD) (c : Nat) (i f : Int32) : BkD := (d.1, d.2.1, d.2.2.1, d.2.2.2.1, knR d.2.2.2.2.1 d.2.2.2.2.2.1 d.2.2.2.2.2.2 c i f, knK d.2.2.2.2.2.1 c i, knF d.2.2.2.2.2.1 d.2.2.2.2.2.2 c i f)
def knC (d : BkD) (c : Nat) (i f : Int32) : Bool := decide (d.2.2.2.2.2.1 c < i) || (decide (i = d.2.2.2.2.2.1 c) && decide (d.2.2.2.2.2.2 c < f))
theorem knB_C {d : BkD} {c : Nat} {i f : Int32} : knB d.2.2.2.2.2.1 d.2.2.2.2.2.2 c i f = bI (knC d c i f) := by
  unfold knB knC
  by_cases h1 : d.2.2.2.2.2.1 c < i
  · simp [h1, bI]
  · by_cases h2 : i = d.2.2.2.2.2.1 c ∧ d.2.2.2.2.2.2 c < f
    · rw [if_neg h1, if_pos h2]; simp [h2.1, h2.2, bI]
    · rw [if_neg h1, if_neg h2]
      have : (decide (d.2.2.2.2.2.1 c < i) || (decide (i = d.2.2.2.2.2.1 c) && decide (d.2.2.2.2.2.2 c < f))) = false := by
        simp only [Bool.or_eq_false_iff, decide_eq_false_iff_not, Bool.and_eq_false_imp, decide_eq_true_eq]
        exact ⟨h1, fun z y => h2 ⟨z, y⟩⟩
      rw [this]; rfl
theorem m_know57 (h : RMF w m S le sc cl mem kept up dy row held fl) (h4 : S ≤ 4) {s b c : Nat} (hs : s < S) (hb : b < 8) (hc : c < 6) (hu : up s = true) (i f : Int32) (y : Bool) : ok (f_X6_know_57 m (nI s) (nI (16 * s + b)) (nI c) i f (nI (6 * (16 * s + b) + c)) (bI y) w) (fun _ w' => RMF w' m S le sc cl (up2b mem s b ((mem s b).1, (mem s b).2.1, (mem s b).2.2.1, (mem s b).2.2.2.1, (mem s b).2.2.2.2.1.filter (rmQ (nI c) f y), va_up (mem s b).2.2.2.2.2.1 c i, va_up (mem s b).2.2.2.2.2.2 c f)) kept up (va_up dy s true) row held fl ∧ Mf m w w') := by
  have hM := h.1.1
  have hat : 16 * s + b < 64 := by omega
  have hix : 6 * (16 * s + b) + c < 384 := by omega
  have hB := (h.2.2.2.1 s b hs hb).1 hu
  unfold f_X6_know_57
  refine ok_mR hM 20 <| ok_mT hM rfl hix (fun hM1 => ok_mR hM1 21 <| ok_mT hM1 rfl hix (fun hM2 => ?_))
  have x : Mx m (fun q => q = m + 20 ∨ q = m + 21) w (sI (sI w (m + 20) (6 * (16 * s + b) + c) i) (m + 21) (6 * (16 * s + b) + c) f) := ((Mx.rf (fun q hq => by omega)).sI (Or.inl rfl)).sI (Or.inr rfl)
  have g : BkF m (16 * s + b) w (sI (sI w (m + 20) (6 * (16 * s + b) + c) i) (m + 21) (6 * (16 * s + b) + c) f) := BkF.rf.l20 x (fun p j hp hj => by rw [wI_s, if_neg (by omega), wI_s, if_neg (by omega)])
  obtain ⟨s1, s2, s3, s4, s5, s6, s7, s8, s9⟩ := id hB
  have hB1 : BKM (sI (sI w (m + 20) (6 * (16 * s + b) + c) i) (m + 21) (6 * (16 * s + b) + c) f) m (16 * s + b) ((mem s b).1, (mem s b).2.1, (mem s b).2.2.1, (mem s b).2.2.2.1, (mem s b).2.2.2.2.1, va_up (mem s b).2.2.2.2.2.1 c i, va_up (mem s b).2.2.2.2.2.2 c f) := by
    refine ⟨by rw [x.I (by omega)]; exact s1, by rw [x.I (by omega)]; exact s2, by rw [x.I (by omega)]; exact s3, by rw [x.I (by omega)]; exact s4, s5, s6, fun j r hj => ?_, fun e he => ?_, fun e he => ?_⟩
    · rw [← s7 j r hj]
      unfold recM
      rw [x.I (q := m + 16) (by omega), x.I (q := m + 17) (by omega), x.I (q := m + 18) (by omega), x.L (q := m + 19) (by omega)]
    · rw [wI_so (by omega), wI_s]
      by_cases e1 : e = c
      · rw [if_pos ⟨rfl, by rw [e1]⟩, e1]; exact (va_up_self _ _ _).symm
      · rw [if_neg (by omega)]
        show _ = va_up _ c i e
        rw [va_up_ne _ _ e1]; exact s8 e he
    · rw [wI_s]
      by_cases e1 : e = c
      · rw [if_pos ⟨rfl, by rw [e1]⟩, e1]; exact (va_up_self _ _ _).symm
      · rw [if_neg (by omega), wI_so (by omega)]
        show _ = va_up _ c f e
        rw [va_up_ne _ _ e1]; exact s9 e he
  obtain ⟨h1, f1⟩ := h.bk hs hb g hB1
  obtain ⟨h2, f2⟩ := h1.dirty hs
  refine ok_mR hM2 23 <| ok_mTZ hM2 rfl (by show s < 4; omega) (Or.inr rfl) (fun hM3 => ?_)
  generalize sI (sI (sI w (m + 20) (6 * (16 * s + b) + c) i) (m + 21) (6 * (16 * s + b) + c) f) (m + 23) s 1 = w3 at hM3 h2 f2 ⊢
  have hB3 := (h2.2.2.2.1 s b hs hb).1 hu
  rw [up2b_self] at hB3
  refine ok_mR hM3 15 <| ok_mA hM3 rfl hat hB3.2.2.2.1 ?_
  refine ok_mono (m_know92 (c := c) (f := f) y hat FU (mem s b).2.2.2.2.1 [] w3 _ (by unfold FU; omega) hM3 hB3 (by rw [List.append_nil])) (fun _ w4 z => ?_)
  obtain ⟨z1, z2, z3⟩ := z
  rw [List.append_nil] at z3
  obtain ⟨h5, f5⟩ := h2.bk hs hb z2 z3
  rw [up2b_up] at h5
  exact ⟨h5, (f1.tr f2).tr f5⟩
theorem rmQ_f {c f : Int32} : rmQ c f false = rmP c f := by
  funext r
  simp [rmQ, rmP]
theorem rmQ_t {op : Nat} {c f : Int32} {rs : List Rec} (h : ∀ r, r ∈ rs → RecOk cl op r) : rs.filter (rmQ c f true) = rs.filter (rmP c 2147483647) := by
  refine List.filter_congr (fun r hr => ?_)
  obtain ⟨e, n, -, -, -, h4, h5⟩ := h r hr
  have : r.2.2.1 < 2147483647 := by
    rw [h4, show (2147483647 : Int32) = nI 2147483647 from rfl, nI_ltI (by omega) (by omega)]; omega
  simp [rmQ, rmP, this]
theorem va_up_id {α : Type} {f : Nat → α} {c : Nat} {v : α} (h : v = f c) : va_up f c v = f := by
  funext e
  by_cases e1 : e = c
  · rw [e1, va_up_self, h]
  · rw [va_up_ne _ _ e1]
theorem m_know (h : RMF w m S le sc cl mem kept up dy row held fl) (h4 : S ≤ 4) {s b c op : Nat} (hs : s < S) (hb : b < 8) (hc : c < 6) (hu : up s = true) (hok : ∀ r, r ∈ (mem s b).2.2.2.2.1 → RecOk cl op r) (i f : Int32) : ok (f_X6_know m (nI s) (nI (16 * s + b)) (nI c) i f w) (fun _ w' => RMF w' m S le sc cl (up2b mem s b (knD (mem s b) c i f)) kept up (if knC (mem s b) c i f then va_up dy s true else dy) row held fl ∧ Mf m w w') := by
  have hM := h.1.1
  have hat : 16 * s + b < 64 := by omega
  have hix : 6 * (16 * s + b) + c < 384 := by omega
  have hB := (h.2.2.2.1 s b hs hb).1 hu
  obtain ⟨s1, s2, s3, s4, s5, s6, s7, s8, s9⟩ := id hB
  unfold f_X6_know
  refine ok_mR hM 20 <| ok_mA hM (i6' _ _) hix (s8 c hc) <| ok_if (fun c1 => ?_) (fun c1 => ?_)
  · have c1' : ¬ (mem s b).2.2.2.2.2.1 c < i := Int32.not_lt.mpr c1
    rw [i6']
    unfold f_X6_know_25
    have same : ¬ (i = (mem s b).2.2.2.2.2.1 c ∧ (mem s b).2.2.2.2.2.2 c < f) → RMF w m S le sc cl (up2b mem s b (knD (mem s b) c i f)) kept up (if knC (mem s b) c i f then va_up dy s true else dy) row held fl ∧ Mf m w w := by
      intro c2
      have e1 : knD (mem s b) c i f = mem s b := by
        unfold knD knR knK knF
        rw [if_neg c1', if_neg c2, if_neg c1', if_neg c1', if_neg c2]
      have e2 : knC (mem s b) c i f = false := by
        unfold knC
        simp only [Bool.or_eq_false_iff, decide_eq_false_iff_not, Bool.and_eq_false_imp, decide_eq_true_eq]
        exact ⟨c1', fun z y => c2 ⟨z, y⟩⟩
      rw [e1, e2, up2b_id rfl]
      exact ⟨h, Mf.rf⟩
    refine ok_t rfl <| ok_mR hM 20 <| ok_mA hM rfl hix (s8 c hc) <| ok_if (fun c2 => ok_ret (same ?_)) (fun c2 => ok_mR hM 21 <| ok_mA hM rfl hix (s9 c hc) <| ok_if (fun c3 => ?_) (fun c3 => ok_ret (same (fun z => c3 z.2))))
    · rintro ⟨z, -⟩
      rw [z] at c2
      exact Int32.lt_irrefl c2
    · have ei : i = (mem s b).2.2.2.2.2.1 c := Int32.le_antisymm c1 (Int32.not_lt.mp c2)
      refine ok_mono (m_know57 h h4 hs hb hc hu i f false) (fun _ w' z => ?_)
      have e1 : knD (mem s b) c i f = ((mem s b).1, (mem s b).2.1, (mem s b).2.2.1, (mem s b).2.2.2.1, (mem s b).2.2.2.2.1.filter (rmQ (nI c) f false), va_up (mem s b).2.2.2.2.2.1 c i, va_up (mem s b).2.2.2.2.2.2 c f) := by
        unfold knD knR knK knF
        rw [if_neg c1', if_pos ⟨ei, c3⟩, if_neg c1', if_neg c1', if_pos ⟨ei, c3⟩, rmQ_f, va_up_id ei]
      have e2 : knC (mem s b) c i f = true := by
        unfold knC
        simp [c3, ei]
      rw [e1, e2]
      exact z
  · have c1' : (mem s b).2.2.2.2.2.1 c < i := Int32.not_le.mp c1
    rw [i6']
    unfold f_X6_know_25
    refine ok_f (by decide) ?_
    refine ok_mono (m_know57 h h4 hs hb hc hu i f true) (fun _ w' z => ?_)
    have e1 : knD (mem s b) c i f = ((mem s b).1, (mem s b).2.1, (mem s b).2.2.1, (mem s b).2.2.2.1, (mem s b).2.2.2.2.1.filter (rmQ (nI c) f true), va_up (mem s b).2.2.2.2.2.1 c i, va_up (mem s b).2.2.2.2.2.2 c f) := by
      unfold knD knR knK knF
      rw [if_pos c1', if_pos c1', if_pos c1', rmQ_t hok]
    have e2 : knC (mem s b) c i f = true := by
      unfold knC
      simp [c1']
    rw [e1, e2]
    exact z
end AN
