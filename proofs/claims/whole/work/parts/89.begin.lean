/-! AT THE START BOTH HOLD THE SAME STATE -/
section N4
variable {w w' : Wd} {o m S : Nat} {le : Int32}
theorem NewF.mx {wb : Wd} {X : Nat → Prop} (h : NewF wb w) (x : Mx m X w w') (hm : wn wb ≤ m) : NewF wb w' := by
  refine ⟨by rw [x.1]; exact h.1, fun q hq => by rw [x.1]; exact h.2.1 q (by rw [← x.2.1]; exact hq), fun q hq => ?_⟩
  have hq' : q < wn wb := hq
  obtain ⟨a1, a2, a3, a4, a5⟩ := h.2.2 q hq
  have hX : ¬ X q := fun z => by have := x.2.2.2.2.2 q z; omega
  exact ⟨by rw [x.2.1]; exact a1, by rw [x.2.2.1]; exact a2, (x.I hX).trans a3, (x.L hX).trans a4, by rw [x.2.2.2.1]; exact a5⟩
def cl0 (S : Nat) : Nat → ClD := fun _ => (0, 0, [], fun b => nI (b % S))
theorem m_make {x1 x2 : Int32} (hw : Wf w) (hS1 : 2 ≤ S) (hS2 : S ≤ 4) (e1 : ∀ (o : Nat) (w : Wd), (if x1 < 2 then (f_X6_init_397 o x2 (some o) w) else (if 4 < x1 then (f_X6_init_397 o x2 (some o) w) else (f_X6_init_398 o x2 (some o) x1 w))) = f_X6_init_398 o x2 (some o) (nI S) w) (e2 : ∀ (o : Nat) (y0 : Option Nat) (y1 : Int32) (w : Wd), f_X6_init_398 o x2 y0 y1 w = pI w y0 7 0 y1 (fun w' => f_X6_init_420 o (some o) le w')) : ok (f_X6_init (wn w) x1 x2 (newC w 7 0)) (fun _ w' => NewF w w' ∧ wn w' = wn w + 45 ∧ RM w' (wn w) S le (fun _ => 0) (cl0 S) (ini S) (ini S) (fun _ => true) (fun _ => false) [] (fun _ => [])) := by
  refine m_arrays hw (fun w2 g n2 hz => ?_)
  obtain ⟨hM, hzero, hobj⟩ := hz
  obtain ⟨m, hm⟩ : ∃ m, wn w = m := ⟨_, rfl⟩
  rw [hm] at n2 hM hzero hobj ⊢
  rw [e1, e2]
  refine ok_pI hM.1 ?_
  unfold f_X6_init_420
  refine ok_pI hM.1 ?_
  have x4 : Mx m (fun q => q = m) w2 (sI (sI w2 m 0 (nI S)) m 1 le) := ((Mx.rf (m := m) (X := fun q => q = m) (fun q hq => by omega)).sI rfl).sI rfl
  have hM4 : isM (sI (sI w2 m 0 (nI S)) m 1 le) m := hM
  have i4 : wI (sI (sI w2 m 0 (nI S)) m 1 le) m 0 = nI S ∧ wI (sI (sI w2 m 0 (nI S)) m 1 le) m 1 = le ∧ ∀ k, k ≠ 0 → k ≠ 1 → wI (sI (sI w2 m 0 (nI S)) m 1 le) m k = 0 := ⟨by simp [wI_s], by simp [wI_s], fun k k1 k2 => by rw [wI_s, if_neg (fun z => k2 z.2), wI_s, if_neg (fun z => k1 z.2)]; exact hobj k⟩
  have l4 : wL (sI (sI w2 m 0 (nI S)) m 1 le) = wL w2 := by rw [wL_sI, wL_sI]
  generalize sI (sI w2 m 0 (nI S)) m 1 le = w4 at x4 hM4 i4 l4 ⊢
  refine m_guess (S := S) (by omega) hS2 FU 0 w4 (by unfold FU; omega) (by omega) hM4 i4.1 (fun w5 hM5 x5 l5 n5 _ => ?_)
  unfold f_X6_init_452
  refine ok_mono (m_outer (S := S) (by omega) hS2 FU 0 w5 (by unfold FU; omega) (by omega) hM5 (by rw [x5.I (by omega)]; exact i4.1)) (fun _ w6 z => ?_)
  obtain ⟨hM6, x6, l6, -, n6, u6, -⟩ := z
  have I : ∀ j i, 1 ≤ j → j ≤ 44 → j ≠ 4 → j ≠ 11 → j ≠ 12 → j ≠ 13 → j ≠ 22 → wI w6 (m + j) i = 0 := fun j i j1 j2 _ _ _ _ _ => by
    rw [x6.I (by omega), x5.I (by omega), x4.I (by omega), (hzero j j1 j2).1]
  have Lz : ∀ j i, 1 ≤ j → j ≤ 44 → wL w6 (m + j) i = 0 := fun j i j1 j2 => by rw [l6, l5, l4, (hzero j j1 j2).2]
  have O : wI w6 m = wI w4 m := by rw [x6.I (by omega), x5.I (by omega)]
  refine ⟨((g.mx x4 (Nat.le_of_eq hm)).mx x5 (Nat.le_of_eq hm)).mx x6 (Nat.le_of_eq hm), by rw [x6.1, x5.1, x4.1]; exact n2, ⟨hM6, ?_⟩, fun c hc => ?_, fun s hs => ?_, fun s b hs hb => ?_, [], fun _ => [], ⟨⟨?_, by simp, fun i l h => by simp at h⟩, rfl, fun i l t h => by simp at h⟩, fun s hs => ⟨⟨?_, by simp, fun i l h => by simp at h⟩, rfl, fun i l t h => by simp at h⟩, fun l hl => ?_, fun l t h => by simp at h⟩
  · rw [O]
    refine ⟨i4.1, i4.2.1, i4.2.2 2 (by omega) (by omega), i4.2.2 3 (by omega) (by omega), i4.2.2 4 (by omega) (by omega), i4.2.2 5 (by omega) (by omega), i4.2.2 6 (by omega) (by omega), 0, by omega, (i4.2.2 48 (by omega) (by omega)).trans nI_0.symm⟩
  · refine ⟨I 1 c (by omega) (by omega) (by omega) (by omega) (by omega) (by omega) (by omega), I 2 c (by omega) (by omega) (by omega) (by omega) (by omega) (by omega) (by omega), (I 3 c (by omega) (by omega) (by omega) (by omega) (by omega) (by omega) (by omega)).trans nI_0.symm, by simp [cl0], fun i r h => by simp [cl0] at h, fun b hb => ?_⟩
    rw [x6.I (by omega), n5 _ (by omega) (by omega)]
    show nI ((8 * c + b) % 8 % S) = nI (b % S)
    rw [show (8 * c + b) % 8 = b by omega]
  · exact ⟨u6 s hs (by omega), I 23 s (by omega) (by omega) (by omega) (by omega) (by omega) (by omega) (by omega)⟩
  · have B : ∀ y, y < 2 * S → y / 2 = s → BKM w6 m (8 * y + b) (ini S s b) := by
      intro y hy hys
      obtain ⟨p1, p2, p3⟩ := n6 y b (by omega) hy hb
      have eo : ov S y b = (if b % S = s then 1 else 0) := by unfold ov; rw [hys]
      refine ⟨p1.trans eo, p2.trans eo, p3, (I 15 _ (by omega) (by omega) (by omega) (by omega) (by omega) (by omega) (by omega)).trans nI_0.symm, by simp [ini], fun k _ => Lz 14 _ (by omega) (by omega), fun i r h => by simp [ini] at h, fun e _ => I 20 _ (by omega) (by omega) (by omega) (by omega) (by omega) (by omega) (by omega), fun e _ => I 21 _ (by omega) (by omega) (by omega) (by omega) (by omega) (by omega) (by omega)⟩
    refine ⟨fun _ => ?_, ?_⟩
    · rw [show 16 * s + b = 8 * (2 * s) + b by omega]; exact B (2 * s) (by omega) (by omega)
    · rw [show 16 * s + 8 + b = 8 * (2 * s + 1) + b by omega]; exact B (2 * s + 1) (by omega) (by omega)
  · rw [O]; exact (i4.2.2 50 (by omega) (by omega)).trans nI_0.symm
  · exact (I 44 s (by omega) (by omega) (by omega) (by omega) (by omega) (by omega) (by omega)).trans nI_0.symm
  · rw [I 24 l (by omega) (by omega) (by omega) (by omega) (by omega) (by omega) (by omega), if_pos rfl]
    have : sumTo S (fun _ => ([] : List Nat).count l) = 0 := by
      have := sumTo_const S 0
      rw [Nat.mul_zero] at this
      exact this
    show 0 + sumTo S (fun _ => ([] : List Nat).count l) + 0 = 0
    rw [this]
theorem OB.rc (h : OB w o S le) (h2 : 2 ≤ S) (h4 : S ≤ 4) (hw : Wf w) (hn : aMo o S + 45 ≤ wn w) : RC w o S le (fun _ => 0) (cl0 S) (mxm (fun _ => true) (ini S) (ini S)) (ini S) (fun _ => true) (cnf (fun _ => true) (fun _ => false)) [] (fun _ => []) := by
  obtain ⟨⟨a1, a2, a3, a4⟩, a5, a6, ⟨b1, b2, b3⟩, ⟨c1, c2, c3⟩, hr⟩ := h
  refine ⟨⟨h2, h4, hw, hn⟩, ⟨⟨a1, a2, a5, a6⟩, ⟨a3, a4 4 (by omega), a4 5 (by omega), a4 6 (by omega), a4 7 (by omega), a4 8 (by omega)⟩, ⟨b1, b2, fun s hs => (b3 s hs).1⟩, ⟨c1, c2, fun c hc => (c3 c hc).1⟩⟩, fun s hs => ?_, fun c hc => (c3 c hc).2, fun s b hs hb => ?_, ⟨[], hr, rfl, fun i x t h => by simp at h⟩, fun s hs => ⟨[], (b3 s hs).2.2.1, rfl, fun i x t h => by simp at h⟩⟩
  · obtain ⟨⟨d1, d2, d3, d4, d5, d6, d7⟩, -, ⟨e1, e2, e3, e4⟩, e5⟩ := (b3 s hs).2
    exact ⟨⟨d1, d2, d3, d4, d5, d6, d7⟩, ⟨e1, e2, fun b hb => (e5 b hb).1⟩, ⟨e3, e4, fun b hb => (e5 b hb).2.1⟩⟩
  · obtain ⟨-, -, -, e5⟩ := (b3 s hs).2
    exact ⟨(e5 b hb).2.2.1, (e5 b hb).2.2.2⟩
theorem inv0 (h2 : 2 ≤ S) : Inv S 0 (fun _ => 0) (cl0 S) (ini S) (ini S) (fun _ => true) [] (fun _ => []) := by
  have hb : ∀ s b, BkOk S (cl0 S) 0 (ini S s b) := fun s b => by
    refine ⟨?_, ⟨b % S, Nat.mod_lt _ (by omega), rfl⟩, fun r hr => by simp [ini] at hr⟩
    unfold ini
    by_cases e : b % S = s
    · exact Or.inr (Or.inl (if_pos e))
    · exact Or.inl (if_neg e)
  refine ⟨by omega, ⟨0, by omega, nI_0.symm, fun c _ => Or.inl rfl, fun s b _ _ => ⟨fun _ => hb s b, hb s b⟩, fun t ht => by simp at ht, fun s _ t ht => by simp at ht⟩, fun c _ => ⟨by simp [cl0], fun r hr => by simp [cl0] at hr, fun _ i => by simp [cl0], fun b _ => ⟨b % S, Nat.mod_lt _ (by omega), rfl⟩⟩, fun s _ => by simp⟩
theorem x_norm (x1 : Int32) : ∃ S, 2 ≤ S ∧ S ≤ 4 ∧ (∀ (o : Nat) (x2 : Int32) (w : Wd), f_X5_init o x1 x2 w = f_X5_init_19 o x2 (nI S) w) ∧ ∀ (o : Nat) (x2 : Int32) (w : Wd), (if x1 < 2 then (f_X6_init_397 o x2 (some o) w) else (if 4 < x1 then (f_X6_init_397 o x2 (some o) w) else (f_X6_init_398 o x2 (some o) x1 w))) = f_X6_init_398 o x2 (some o) (nI S) w := by
  by_cases h1 : x1 < 2
  · exact ⟨3, by omega, by omega, fun o x2 w => by unfold f_X5_init; rw [if_pos h1]; rfl, fun o x2 w => by rw [if_pos h1]; rfl⟩
  · by_cases h2 : 4 < x1
    · exact ⟨3, by omega, by omega, fun o x2 w => by unfold f_X5_init; rw [if_neg h1, if_pos h2]; rfl, fun o x2 w => by rw [if_neg h1, if_pos h2]; rfl⟩
    · have h0 : ¬ x1 < 0 := fun z => h1 (Int32.lt_of_lt_of_le z (by decide))
      obtain ⟨e1, e2⟩ := nn_of h0
      have b1 := h1
      have b2 := h2
      rw [e1, show (2 : Int32) = nI 2 from rfl, nI_ltI (by omega) (by omega)] at b1
      rw [e1, show (4 : Int32) = nI 4 from rfl, nI_ltI (by omega) (by omega)] at b2
      exact ⟨x1.toNatClampNeg, by omega, by omega, fun o x2 w => by unfold f_X5_init; rw [if_neg h1, if_neg h2, ← e1], fun o x2 w => by rw [if_neg h1, if_neg h2, ← e1]⟩
theorem le_norm (x2 : Int32) : ∃ le, (∀ (o : Nat) (y : Int32) (w : Wd), f_X5_init_19 o x2 y w = f_X5_init_39 o y (some o) le w) ∧ ∀ (o : Nat) (y0 : Option Nat) (y1 : Int32) (w : Wd), f_X6_init_398 o x2 y0 y1 w = pI w y0 7 0 y1 (fun w' => f_X6_init_420 o (some o) le w') := by
  by_cases h1 : x2 < 1
  · exact ⟨50, fun o y w => by unfold f_X5_init_19; rw [if_pos h1]; rfl, fun o y0 y1 w => by unfold f_X6_init_398; simp only [if_pos h1]; rfl⟩
  · by_cases h2 : 1000 < x2
    · exact ⟨50, fun o y w => by unfold f_X5_init_19; rw [if_neg h1, if_pos h2]; rfl, fun o y0 y1 w => by unfold f_X6_init_398; simp only [if_neg h1, if_pos h2]; rfl⟩
    · exact ⟨x2, fun o y w => by unfold f_X5_init_19; rw [if_neg h1, if_neg h2], fun o y0 y1 w => by unfold f_X6_init_398; simp only [if_neg h1, if_neg h2]⟩
end N4
