/-! A NEW OBJECT: rows, servers -/
section N1
variable {w w' : Wd} {a s S j : Nat}
theorem modS (hj : j < 2 ^ 31) (h1 : 1 ≤ S) (h2 : S < 2 ^ 31) : nI j - nI j / nI S * nI S = nI (j % S) := by
  rw [pk_div hj (d := S) (by omega) (by omega), pk_mul, nsub (Nat.div_mul_le_self j S)]
  congr 1
  have := Nat.div_add_mod' j S
  omega
theorem row_make {cap : Nat} {x : Int32} (hw : Wf w) (hx : mx 0 x = nI cap) (hc : cap ≤ 512) : ok (f_X3_init (wn w) x (newC w 4 0)) (fun _ w' => wn w' = wn w + 2 ∧ NewF w w' ∧ isRow w' (wn w) cap []) := by
  obtain ⟨n1, n2, n3, n4, n5, n6⟩ := wnew w 4 0 (wn w)
  rw [if_pos rfl] at n2 n3 n4 n5 n6
  have hg := NewF.new (w := w) (kd := 4) (n := 0) hw
  generalize newC w 4 0 = w1 at *
  have M0 : Mks (wn w) (wn w + 1) [] w1 w1 := Mks.z n1
  unfold f_X3_init
  refine ok_mk M0 (by omega) n2 (N := cap) hx hc (by omega) (by decide) (fun w2 M1 => ok_ret ?_)
  obtain ⟨a1, a2, a3, a4, a5, a6⟩ := M1
  obtain ⟨b1, b2, b3, b4, -⟩ := a4 (wn w) (by omega)
  obtain ⟨r0, k0, l0, i0, j0⟩ := a6 0 _ rfl
  refine ⟨by rw [a2]; rfl, ⟨by rw [a2]; omega, a3 hg.2.1, fun q hq => ?_⟩, b1.trans n2, r0, k0, l0, by rw [b3, n4]; exact nI_0.symm, by simp, by omega, fun i x h => by simp at h, fun x h => by simp at h⟩
  have hq' : q < wn w := hq
  obtain ⟨c1, c2, c3, c4, c5⟩ := a4 q (by omega)
  obtain ⟨d1, d2, d3, d4, d5⟩ := hg.2.2 q hq
  exact ⟨c1.trans d1, c2.trans d2, c3.trans d3, c4.trans d4, (c5 (by omega)).trans d5⟩
/-- a bucket at the start -/
def ini (S s b : Nat) : BkD := (if b % S = s then 1 else 0, if b % S = s then 1 else 0, nI (b % S), fun _ => 0, [], fun _ => 0, fun _ => 0)
/-- a server at a, its buckets below j made -/
def SVj (w : Wd) (a s S j : Nat) : Prop := (wK w a = 5 ∧ wI w a 0 = nI s ∧ wR w a 1 = some (a + 1) ∧ wR w a 2 = some (a + 3) ∧ wR w a 3 = some (a + 4) ∧ wI w a 4 = 1 ∧ wI w a 5 = 1) ∧ isRow w (a + 1) 512 [] ∧ (wK w (a + 3) = 103 ∧ wN w (a + 3) = 8 ∧ wK w (a + 4) = 103 ∧ wN w (a + 4) = 8) ∧ ∀ b, b < j → wR w (a + 3) b = some (a + 5 + 16 * b) ∧ wR w (a + 4) b = some (a + 13 + 16 * b) ∧ BKd w (a + 5 + 16 * b) (ini S s b) ∧ BKd w (a + 13 + 16 * b) (ini S s b)
theorem SVj.ag (h : SVj w a s S j) (g : Ag (fun q => a ≤ q ∧ q < a + 5 + 16 * j) w w') : SVj w' a s S j := by
  obtain ⟨h1, h2, h3, h4⟩ := h
  have g0 := g a ⟨by omega, by omega⟩
  have g3 := g (a + 3) ⟨by omega, by omega⟩
  have g4 := g (a + 4) ⟨by omega, by omega⟩
  refine ⟨?_, h2.ag (g.mono (fun q hq => by omega)) (fun x hx => by simp at hx), ?_, fun b hb => ?_⟩
  · rw [g0.1, g0.2.2.1, g0.2.2.2.2]; exact h1
  · rw [g3.1, g3.2.1, g4.1, g4.2.1]; exact h3
  · obtain ⟨b1, b2, b3, b4⟩ := h4 b hb
    rw [g3.2.2.2.2, g4.2.2.2.2]
    exact ⟨b1, b2, b3.ag (g.mono (fun q hq => by omega)), b4.ag (g.mono (fun q hq => by omega))⟩
theorem agR {p k : Nat} {v : Option Nat} : Ag (fun q => q ≠ p) w (sR w p k v) := fun q hq => ⟨rfl, rfl, rfl, rfl, wR_o hq⟩
theorem SVj.put {e : Nat} {v : Option Nat} (h : SVj w a s S j) (he : e = 3 ∨ e = 4) : SVj (sR w (a + e) j v) a s S j := by
  obtain ⟨h1, h2, h3, h4⟩ := h
  have g : Ag (fun q => q ≠ a + e) w (sR w (a + e) j v) := fun q hq => ⟨rfl, rfl, rfl, rfl, up2_n _ _ _ hq⟩
  refine ⟨?_, h2.ag (g.mono (fun q hq => by omega)) (fun x hx => by simp at hx), h3, fun b hb => ?_⟩
  · rw [(g a (by omega)).2.2.2.2]; exact h1
  · obtain ⟨b1, b2, b3, b4⟩ := h4 b hb
    refine ⟨?_, ?_, b3.ag (g.mono (fun q hq => by omega)), b4.ag (g.mono (fun q hq => by omega))⟩
    · rw [wR_s, if_neg (by omega)]; exact b1
    · rw [wR_s, if_neg (by omega)]; exact b2
theorem BK.hd3 {st ve hi st' ve' hi' : Int32} {va : Nat → Int64} {rs : List Rec} {kn fi : Nat → Int32} (h : BK w a st ve hi va rs kn fi) : BK (sI (sI (sI w a 2 hi') a 0 st') a 1 ve') a st' ve' hi' va rs kn fi ∧ Bf a w (sI (sI (sI w a 2 hi') a 0 st') a 1 ve') := by
  obtain ⟨hB, h0, h1, h2, h3, hl, hv, hr, hk, hf⟩ := h
  have g : Bf a w (sI (sI (sI w a 2 hi') a 0 st') a 1 ve') := ((Bf.sI (Nat.le_refl _) (by omega)).tr (Bf.sI (Nat.le_refl _) (by omega))).tr (Bf.sI (Nat.le_refl _) (by omega))
  refine ⟨⟨hB.f g, by simp [wI_s], by simp [wI_s], by simp [wI_s], by simp [wI_s]; exact h3, hl, fun k hk' => by rw [wL_sI, wL_sI, wL_sI]; exact hv k hk', fun i r hi'' => ?_, fun c hc => by rw [wI_so (by omega), wI_so (by omega), wI_so (by omega)]; exact hk c hc, fun c hc => by rw [wI_so (by omega), wI_so (by omega), wI_so (by omega)]; exact hf c hc⟩, g⟩
  rw [← hr i r hi'']
  unfold recAt
  rw [wI_so (by omega), wI_so (by omega), wI_so (by omega), wI_so (by omega), wI_so (by omega), wI_so (by omega), wI_so (by omega), wI_so (by omega), wI_so (by omega), wL_sI, wL_sI, wL_sI]
theorem Bf.lt {p : Nat} (h : Bf p w w') : Ag (fun q => q < p) w w' := fun q hq => ⟨by rw [h.2.1], by rw [h.2.2.1], (h.2.2.2.2 q (Or.inl hq)).1, (h.2.2.2.2 q (Or.inl hq)).2, by rw [h.2.2.2.1]⟩
/-- behind a bucket with its hint: status and version, both places, the copy -/
theorem sv_tail {wb : Wd} {K : Nat → Int32 → Int32 → Int32 → Wd → Option (Unit × Wd)} {P : Unit → Wd → Prop} (hwb : wn wb = a) (hj : j < 8) (hw : NewF wb w) (h : SVj w a s S j) (hn : wn w = a + 13 + 16 * j) (hs : s < 2 ^ 31) (hS1 : 1 ≤ S) (hS2 : S ≤ 4) (hB : BK w (a + 5 + 16 * j) 0 0 0 (fun _ => 0) [] (fun _ => 0) (fun _ => 0)) (x3 : Int32) (hK : ∀ w2, NewF wb w2 → wn w2 = a + 5 + 16 * (j + 1) → SVj w2 a s S (j + 1) → ok (K a (nI s) x3 (nI (j + 1)) w2) P) : ok (pI w (some (a + 5 + 16 * j)) 1 2 (nI (j % S)) (fun w54 => gI w54 (some (a + 5 + 16 * j)) 1 2 (fun v59 => if v59 = nI s then (f_X4_init_101 K a (nI s) x3 (nI j) (some (a + 5 + 16 * j)) (some (a + 5 + 16 * j)) 1 w54) else (f_X4_init_101 K a (nI s) x3 (nI j) (some (a + 5 + 16 * j)) (some (a + 5 + 16 * j)) 0 w54)))) P := by
  have hjs : j % S < 4 := Nat.lt_of_lt_of_le (Nat.mod_lt _ (by omega)) hS2
  have kb := hB.1.1.1
  generalize hv : (if j % S = s then (1 : Int32) else 0) = v
  obtain ⟨q1, q2⟩ := hB.hd3 (st' := v) (ve' := v) (hi' := nI (j % S))
  have main : ok (f_X4_init_101 K a (nI s) x3 (nI j) (some (a + 5 + 16 * j)) (some (a + 5 + 16 * j)) v (sI w (a + 5 + 16 * j) 2 (nI (j % S)))) P := by
    have c120 : ok (f_X4_init_120 K a (nI s) x3 (nI j) (some (a + 5 + 16 * j)) (some (a + 5 + 16 * j)) v (sI (sI w (a + 5 + 16 * j) 2 (nI (j % S))) (a + 5 + 16 * j) 0 v)) P := by
      unfold f_X4_init_120
      refine ok_pI kb ?_
      have g4 : NewF wb (sI (sI (sI w (a + 5 + 16 * j) 2 (nI (j % S))) (a + 5 + 16 * j) 0 v) (a + 5 + 16 * j) 1 v) := hw.bf q2 (by omega)
      have h4 := h.ag (q2.lt.mono (fun q hq => by omega))
      have n4 : wn (sI (sI (sI w (a + 5 + 16 * j) 2 (nI (j % S))) (a + 5 + 16 * j) 0 v) (a + 5 + 16 * j) 1 v) = a + 13 + 16 * j := by rw [q2.1]; exact hn
      generalize sI (sI (sI w (a + 5 + 16 * j) 2 (nI (j % S))) (a + 5 + 16 * j) 0 v) (a + 5 + 16 * j) 1 v = w4 at q1 g4 h4 n4 ⊢
      obtain ⟨u1, u2, u3, u4⟩ := id h4
      refine ok_gR u1.1 u1.2.2.2.1 <| ok_tR rfl u3.1 (by omega) (by omega) (Or.inr ⟨_, rfl, q1.1.1.1⟩) ?_
      have h5 := h4.put (e := 3) (v := some (a + 5 + 16 * j)) (Or.inl rfl)
      have g5 := g4.sR (a := a + 3) (k := j) (v := some (a + 5 + 16 * j)) (by omega)
      have b5 := q1.ag (agR.mono (fun q hq => by omega) : Ag (fun q => a + 5 + 16 * j ≤ q ∧ q ≤ a + 5 + 16 * j + 7) w4 (sR w4 (a + 3) j (some (a + 5 + 16 * j))))
      have e5 : wR (sR w4 (a + 3) j (some (a + 5 + 16 * j))) (a + 3) j = some (a + 5 + 16 * j) := by rw [wR_s, if_pos ⟨rfl, rfl⟩]
      have n5 : wn (sR w4 (a + 3) j (some (a + 5 + 16 * j))) = a + 13 + 16 * j := n4
      generalize sR w4 (a + 3) j (some (a + 5 + 16 * j)) = w5 at h5 g5 b5 e5 n5 ⊢
      refine ok_gR h5.1.1 h5.1.2.2.2.2.1 <| ok_nwO <| ok_call (bk_make g5.2.1) (fun _ w6 z => ?_)
      obtain ⟨z1, z2, z3⟩ := z
      rw [n5] at z1 z3
      have z2' : Ag (fun q => q < a + 13 + 16 * j) w5 w6 := by
        have := z2.2.2
        rw [n5] at this
        exact this
      have h6 := h5.ag (z2'.mono (fun q hq => by omega))
      have g6 := g5.tr z2
      have b6 := b5.ag (z2'.mono (fun q hq => by omega))
      have e6 : wR w6 (a + 3) j = some (a + 5 + 16 * j) := by rw [(z2' (a + 3) (by omega)).2.2.2.2]; exact e5
      rw [n5]
      refine ok_tR rfl h6.2.2.1.2.2.1 (by rw [h6.2.2.1.2.2.2]; omega) (by omega) (Or.inr ⟨_, rfl, z3.1.1.1⟩) ?_
      have h7 := h6.put (e := 4) (v := some (a + 13 + 16 * j)) (Or.inr rfl)
      have g7 := g6.sR (a := a + 4) (k := j) (v := some (a + 13 + 16 * j)) (by omega)
      have b7 := b6.ag (agR.mono (fun q hq => by omega) : Ag (fun q => a + 5 + 16 * j ≤ q ∧ q ≤ a + 5 + 16 * j + 7) w6 (sR w6 (a + 4) j (some (a + 13 + 16 * j))))
      have c7 := z3.ag (agR.mono (fun q hq => by omega) : Ag (fun q => a + 13 + 16 * j ≤ q ∧ q ≤ a + 13 + 16 * j + 7) w6 (sR w6 (a + 4) j (some (a + 13 + 16 * j))))
      have e7 : wR (sR w6 (a + 4) j (some (a + 13 + 16 * j))) (a + 3) j = some (a + 5 + 16 * j) := by rw [wR_s, if_neg (by omega)]; exact e6
      have d7 : wR (sR w6 (a + 4) j (some (a + 13 + 16 * j))) (a + 4) j = some (a + 13 + 16 * j) := by rw [wR_s, if_pos ⟨rfl, rfl⟩]
      have n7 : wn (sR w6 (a + 4) j (some (a + 13 + 16 * j))) = a + 13 + 16 * j + 8 := z1
      generalize sR w6 (a + 4) j (some (a + 13 + 16 * j)) = w7 at h7 g7 b7 c7 e7 d7 n7 ⊢
      refine ok_gR h7.1.1 h7.1.2.2.2.2.1 <| ok_aR rfl h7.2.2.1.2.2.1 (by rw [h7.2.2.1.2.2.2]; omega) (by omega) d7 <| ok_chk c7.1.1.1 <| ok_call (bk_copy c7.1 b7 (Or.inl (by omega))) (fun _ w8 y => ?_)
      obtain ⟨y1, y2⟩ := y
      rw [nI_1]
      have h8 := h7.ag (y1.lt.mono (fun q hq => by omega))
      have b8 := b7.ag (y1.lt.mono (fun q hq => by omega))
      refine hK w8 (g7.bf y1 (by omega)) (by rw [y1.1, n7]; omega) ⟨h8.1, h8.2.1, h8.2.2.1, fun b hb => ?_⟩
      by_cases e : b = j
      · subst e
        refine ⟨by rw [y1.2.2.2.1]; exact e7, by rw [y1.2.2.2.1]; exact d7, ?_, ?_⟩
        · show BK w8 _ (if b % S = s then 1 else 0) (if b % S = s then 1 else 0) _ _ _ _ _
          rw [hv]; exact b8
        · show BK w8 _ (if b % S = s then 1 else 0) (if b % S = s then 1 else 0) _ _ _ _ _
          rw [hv]; exact y2
      · exact h8.2.2.2 b (by omega)
    unfold f_X4_init_101
    refine ok_pI kb <| ok_gI (v := nI (j % S)) kb (by simp [wI_s]) <| ok_if (fun c => ?_) (fun c => ?_)
    · rw [nI_eq (by omega) hs] at c
      rw [if_pos c] at hv
      subst hv; exact c120
    · rw [nI_eq (by omega) hs] at c
      rw [if_neg c] at hv
      subst hv; exact c120
  refine ok_pI kb <| ok_gI (v := nI (j % S)) kb (by rw [wI_s, if_pos ⟨rfl, rfl⟩]) <| ok_if (fun c => ?_) (fun c => ?_)
  · rw [nI_eq (by omega) hs] at c
    rw [if_pos c] at hv
    subst hv; exact main
  · rw [nI_eq (by omega) hs] at c
    rw [if_neg c] at hv
    subst hv; exact main
theorem sv_loop {wb : Wd} (hwb : wn wb = a) (hs : s < 2 ^ 31) (hS1 : 1 ≤ S) (hS2 : S ≤ 4) : ∀ (n j : Nat) (w : Wd), 8 < n + j → j ≤ 8 → NewF wb w → wn w = a + 5 + 16 * j → SVj w a s S j → ok (f_X4_init_60 n a (nI s) (nI S) (nI j) w) (fun _ w' => wn w' = a + 133 ∧ NewF wb w' ∧ SVj w' a s S 8) := by
  intro n
  induction n with
  | zero => intro j w h1 h2; omega
  | succ n ih =>
    intro j w h1 h2 hw hn h
    rw [f_X4_init_60.eq_2]
    refine ok_if (fun c => ?_) (fun c => ?_)
    · rw [show (8 : Int32) = nI 8 from rfl, nI_leI (by omega) (by omega)] at c
      have hj : j = 8 := by omega
      subst hj
      exact ok_ret ⟨by rw [hn], hw, h⟩
    · rw [show (8 : Int32) = nI 8 from rfl, nI_leI (by omega) (by omega)] at c
      refine ok_nwO <| ok_call (bk_make hw.2.1) (fun _ w1 z => ?_)
      obtain ⟨z1, z2, z3⟩ := z
      have z2' : Ag (fun q => q < a + 5 + 16 * j) w w1 := by
        have := z2.2.2
        rw [hn] at this
        exact this
      rw [hn] at z1 z3 ⊢
      rw [modS (by omega) hS1 (by omega)]
      refine ok_nz ?_ ?_
      · rw [← nI_0, nI_eq (by omega) (by omega)]; omega
      exact sv_tail hwb (by omega) (hw.tr z2) (h.ag (z2'.mono (fun q hq => by omega))) (by rw [z1]; omega) hs hS1 hS2 z3 (nI S) (fun w2 g2 n2 h3 => ih (j + 1) w2 (by omega) (by omega) g2 n2 h3)
theorem sv_make (hw : Wf w) (hs : s < 2 ^ 31) (hS1 : 1 ≤ S) (hS2 : S ≤ 4) : ok (f_X4_init (wn w) (nI s) (nI S) (newC w 5 0)) (fun _ w' => wn w' = wn w + 133 ∧ NewF w w' ∧ SVj w' (wn w) s S 8) := by
  obtain ⟨n1, n2, n3, n4, n5, n6⟩ := wnew w 5 0 (wn w)
  rw [if_pos rfl] at n2 n3 n4 n5 n6
  have hg := NewF.new (w := w) (kd := 5) (n := 0) hw
  generalize newC w 5 0 = w1 at *
  unfold f_X4_init
  refine ok_nwO <| ok_call (row_make (cap := 512) hg.2.1 rfl (by omega)) (fun _ w2 z => ?_)
  obtain ⟨z1, z2, z3⟩ := z
  have f2 := z2.2.2 (wn w) (by show wn w < wn w1; omega)
  rw [n1] at z1 z3
  refine ok_pR (f2.1.trans n2) ?_
  have hg3 := (hg.tr z2).sR (a := wn w) (k := 1) (v := some (wn w1)) (Nat.le_refl _)
  have r3 : isRow (sR w2 (wn w) 1 (some (wn w1))) (wn w + 1) 512 [] := z3.ag (agR.mono (fun q hq => by omega)) (fun x hx => by simp at hx)
  have e3 : wR (sR w2 (wn w) 1 (some (wn w1))) (wn w) 1 = some (wn w + 1) := by rw [wR_s, if_pos ⟨rfl, rfl⟩, n1]
  have k3 : wK (sR w2 (wn w) 1 (some (wn w1))) (wn w) = 5 := f2.1.trans n2
  have m3 : wn (sR w2 (wn w) 1 (some (wn w1))) = wn w + 3 := by show wn w2 = _; rw [z1]
  generalize sR w2 (wn w) 1 (some (wn w1)) = w3 at hg3 r3 e3 k3 m3 ⊢
  have M0 : Mks (wn w) (wn w + 3) [] w3 w3 := Mks.z m3
  have ho : wn w < wn w + 3 := by omega
  refine ok_mk M0 ho k3 (N := 8) rfl (by omega) (by omega) (by decide) (fun _ M1 => ?_)
  refine ok_mk M1 ho k3 (N := 8) rfl (by omega) (by omega) (by decide) (fun w5 M2 => ?_)
  obtain ⟨a1, a2, a3, a4, a5, a6⟩ := M2
  obtain ⟨b1, b2, b3, b4, -⟩ := a4 (wn w) (by omega)
  obtain ⟨r0, k0, l0, i0, j0⟩ := a6 0 _ rfl
  obtain ⟨r1, k1, l1, i1, j1⟩ := a6 1 _ rfl
  have e1 := a5 1 (by decide)
  have g5 : NewF w w5 := ⟨by rw [a2]; omega, a3 hg3.2.1, fun q hq => by
    have hq' : q < wn w := hq
    obtain ⟨c1, c2, c3, c4, c5⟩ := a4 q (by omega)
    obtain ⟨d1, d2, d3, d4, d5⟩ := hg3.2.2 q hq
    exact ⟨c1.trans d1, c2.trans d2, c3.trans d3, c4.trans d4, (c5 (by omega)).trans d5⟩⟩
  have k5 : wK w5 (wn w) = 5 := b1.trans k3
  have r5 : isRow w5 (wn w + 1) 512 [] := r3.ag (fun q hq => by
    obtain ⟨c1, c2, c3, c4, c5⟩ := a4 q (by omega)
    exact ⟨c1, c2, c3, c4, c5 (by omega)⟩) (fun x hx => by simp at hx)
  refine ok_pZ k5 (Or.inr rfl) <| ok_pZ k5 (Or.inr rfl) <| ok_pI k5 ?_
  have g6 := ((g5.sI (a := wn w) (k := 4) (v := 1) (Nat.le_refl _)).sI (a := wn w) (k := 5) (v := 1) (Nat.le_refl _)).sI (a := wn w) (k := 0) (v := nI s) (Nat.le_refl _)
  have r6 : isRow (sI (sI (sI w5 (wn w) 4 1) (wn w) 5 1) (wn w) 0 (nI s)) (wn w + 1) 512 [] := r5.ag (fun q hq => ⟨rfl, rfl, by rw [wI_so (by omega), wI_so (by omega), wI_so (by omega)], rfl, rfl⟩) (fun x hx => by simp at hx)
  have hmx : mx 1 (nI S) = nI S := by
    unfold mx
    by_cases e : (1 : Int32) < nI S
    · rw [if_pos e]
    · rw [if_neg e]
      rw [show (1 : Int32) = nI 1 from rfl, nI_ltI (by omega) (by omega)] at e
      rw [show (1 : Int32) = nI 1 from rfl]
      congr 1
      omega
  rw [hmx]
  refine ok_mono (sv_loop (a := wn w) rfl hs hS1 hS2 9 0 _ (by omega) (by omega) g6 (by show wn w5 = _; rw [a2]; rfl) ⟨⟨k5, by simp [wI_s], e1.trans e3, r0, r1, by simp [wI_s], by simp [wI_s]⟩, r6, ⟨k0, l0, k1, l1⟩, fun b hb => by omega⟩) (fun _ w' y => y)
end N1
