/-! TWIN -/
section TW
variable {w w' : Wd} {o m S : Nat} {le : Int32} {sc : Nat → Int32} {cl : Nat → ClD} {mem kept : Nat → Nat → BkD} {up cn dy : Nat → Bool} {row : List Ltr} {held : Nat → List Ltr} {fl : List (Nat × Ltr)}
theorem SlotF.l35 {l : Nat} {w1 : Wd} (h : SlotF m l w w1) (x : Mx m (fun q => q = m + 35) w1 w') (e : wI w' = wI w1) (vo : ∀ i, (i < 4 * l ∨ 4 * l + 4 ≤ i) → wL w' (m + 35) i = wL w1 (m + 35) i) : SlotF m l w w' := by
  obtain ⟨a1, a2, a3, a4, a5, a6, a7⟩ := h
  refine ⟨a1.tr (x.mono (fun q hq => by omega) (fun q hq => by omega)), ?_, ?_, fun j i b c d => ⟨?_, ?_⟩, fun i b => (vo i b).trans (a5 i b), fun j i b c d => ⟨?_, ?_⟩, ?_⟩
  · rw [e]; exact a2
  · rw [e]; exact a3
  · rw [e]; exact (a4 j i b c d).1
  · rw [x.L (by omega)]; exact (a4 j i b c d).2
  · rw [e]; exact (a6 j i b c d).1
  · rw [x.L (by omega)]; exact (a6 j i b c d).2
  · rw [e]; exact a7
theorem SlotF.l36 {l : Nat} {w1 : Wd} (h : SlotF m l w w1) (x : Mx m (fun q => m + 36 ≤ q ∧ q ≤ m + 39) w1 w') (ro : ∀ p i, 36 ≤ p → p ≤ 39 → (i < 12 * l ∨ 12 * l + 12 ≤ i) → wI w' (m + p) i = wI w1 (m + p) i ∧ wL w' (m + p) i = wL w1 (m + p) i) : SlotF m l w w' := by
  obtain ⟨a1, a2, a3, a4, a5, a6, a7⟩ := h
  refine ⟨a1.tr (x.mono (fun q hq => by omega) (fun q hq => by omega)), ?_, ?_, fun j i b c d => ⟨?_, ?_⟩, fun i b => ?_, fun j i b c d => ⟨(ro j i b c d).1.trans (a6 j i b c d).1, (ro j i b c d).2.trans (a6 j i b c d).2⟩, fun j i b c d => ?_⟩
  · rw [x.I (by omega)]; exact a2
  · rw [x.I (by omega)]; exact a3
  · rw [x.I (by omega)]; exact (a4 j i b c d).1
  · rw [x.L (by omega)]; exact (a4 j i b c d).2
  · rw [x.L (by omega)]; exact a5 i b
  · rw [x.I (by omega)]; exact a7 j i b c d
theorem SlotF.l40 {l : Nat} {w1 : Wd} (h : SlotF m l w w1) (x : Mx m (fun q => q = m + 40 ∨ q = m + 41) w1 w') (ko : ∀ p i, p = 40 ∨ p = 41 → (i < 6 * l ∨ 6 * l + 6 ≤ i) → wI w' (m + p) i = wI w1 (m + p) i) : SlotF m l w w' := by
  obtain ⟨a1, a2, a3, a4, a5, a6, a7⟩ := h
  refine ⟨a1.tr (x.mono (fun q hq => by omega) (fun q hq => by omega)), ?_, ?_, fun j i b c d => ⟨?_, ?_⟩, fun i b => ?_, fun j i b c d => ⟨?_, ?_⟩, fun j i b c d => (ko j i (by omega) d).trans (a7 j i b c d)⟩
  · rw [x.I (by omega)]; exact a2
  · rw [x.I (by omega)]; exact a3
  · rw [x.I (by omega)]; exact (a4 j i b c d).1
  · rw [x.L (by omega)]; exact (a4 j i b c d).2
  · rw [x.L (by omega)]; exact a5 i b
  · rw [x.I (by omega)]; exact (a6 j i b c d).1
  · rw [x.L (by omega)]; exact (a6 j i b c d).2
/-- the row's letters by the reference's number -/
theorem RMF.at (h : RMF w m S le sc cl mem kept up dy row held fl) {i : Nat} (hi : i < row.length) : ∃ l, wI w (m + 42) i = nI l ∧ LTM w m l row[i] := by
  obtain ⟨-, -, -, -, Lr, Lh, ⟨h5, h5'⟩, -⟩ := h
  have hil : i < Lr.length := by rw [h5'.1]; exact hi
  exact ⟨Lr[i], h5.2.2 i _ (List.getElem?_eq_getElem hil), h5'.2 i _ _ (List.getElem?_eq_getElem hil) (List.getElem?_eq_getElem hi)⟩
theorem m_twin (h : RMF w m S le sc cl mem kept up dy row held fl) (h4 : S ≤ 4) (hfl : fl.length ≤ 600) {i : Nat} (hi : i < row.length) (hfull : ¬ row.length = 400) (hkn : knd row[i]) : ok (f_X6_twin m (nI i) w) (fun v w' => v = row[i].1.1 ∧ RMF w' m S le (goL sc row) cl mem kept up dy (goR row row[i]) held fl ∧ Mf m w w') := by
  have hM := h.1.1
  obtain ⟨e50, h400⟩ := h.e50
  obtain ⟨l, el, ht⟩ := h.at hi
  generalize row[i] = t at *
  obtain ⟨⟨hl, b24, b25, b26, b27, b28, b29⟩, t1, t2, t3, t4⟩ := id ht
  unfold f_X6_twin
  refine ok_gI hM.1 e50 (ok_use m_in ?_)
  rw [if_pos ((in_row (by omega) _).mpr ⟨i, hi, rfl⟩)]
  refine ok_f (by decide) <| ok_gI hM.1 e50 <| ok_f ?_ ?_
  · rw [show (400 : Int32) = nI 400 from rfl, nI_eq (by omega) (by omega)]; exact hfull
  refine ok_mR hM 42 <| ok_mA hM rfl (by show _ < 400; omega) el <| ok_mR hM 25 <| ok_mA hM rfl hl b25 <| ok_mR hM 26 <| ok_mA hM rfl hl b26 <| ok_mR hM 27 <| ok_mA hM rfl hl b27 <| ok_chk hM.1 <| ok_call (m_letter h h4 hfl _ _ _) (fun v w1 z => ?_)
  obtain ⟨l', rfl, hl', h0, g, ⟨u1, u2, u3, u4⟩, ⟨v1, v2, v3, v4, v5⟩, v6, v7⟩ := z
  have hne : l ≠ l' := fun e => by rw [e, h0] at b24; exact absurd b24 (by decide)
  have hM1 := hM.f g.mf
  refine ok_mR hM1 28 <| ok_mR hM1 28 <| ok_mA hM1 rfl hl (g.2.2.2.1 28 l (by omega) (by omega) hne).1 <| ok_mT hM1 rfl hl' (fun hM2 => ?_)
  have g2 := g.sI (j := 28) (v := wI w (m + 28) l) (by omega) (by omega)
  refine ok_mR hM2 29 <| ok_mR hM2 29 <| ok_mA hM2 rfl hl (g2.2.2.2.1 29 l (by omega) (by omega) hne).1 <| ok_mT hM2 rfl hl' (fun hM3 => ?_)
  have g3 := g2.sI (j := 29) (v := wI w (m + 29) l) (by omega) (by omega)
  refine ok_mR hM3 30 <| ok_mR hM3 30 <| ok_mA hM3 rfl hl (g3.2.2.2.1 30 l (by omega) (by omega) hne).1 <| ok_mT hM3 rfl hl' (fun hM4 => ?_)
  have g4 := g3.sI (j := 30) (v := wI w (m + 30) l) (by omega) (by omega)
  refine ok_mR hM4 31 <| ok_mR hM4 31 <| ok_mA hM4 rfl hl (g4.2.2.2.1 31 l (by omega) (by omega) hne).1 <| ok_mT hM4 rfl hl' (fun hM5 => ?_)
  have g5 := g4.sI (j := 31) (v := wI w (m + 31) l) (by omega) (by omega)
  refine ok_mR hM5 32 <| ok_mR hM5 32 <| ok_mA hM5 rfl hl (g5.2.2.2.1 32 l (by omega) (by omega) hne).1 <| ok_mT hM5 rfl hl' (fun hM6 => ?_)
  have g6 := g5.sI (j := 32) (v := wI w (m + 32) l) (by omega) (by omega)
  refine ok_mR hM6 33 <| ok_mR hM6 33 <| ok_mAL hM6 rfl hl (g6.2.2.2.1 33 l (by omega) (by omega) hne).2 <| ok_mTL hM6 rfl hl' (fun hM7 => ?_)
  have g7 := g6.sL (j := 33) (v := wL w (m + 33) l) (by omega) (by omega)
  refine ok_mR hM7 34 <| ok_mR hM7 34 <| ok_mAL hM7 rfl hl (g7.2.2.2.1 34 l (by omega) (by omega) hne).2 <| ok_mTL hM7 rfl hl' (fun hM8 => ?_)
  have g8 := g7.sL (j := 34) (v := wL w (m + 34) l) (by omega) (by omega)
  have F1 : wI (sL (sL (sI (sI (sI (sI (sI w1 (m + 28) l' (wI w (m + 28) l)) (m + 29) l' (wI w (m + 29) l)) (m + 30) l' (wI w (m + 30) l)) (m + 31) l' (wI w (m + 31) l)) (m + 32) l' (wI w (m + 32) l)) (m + 33) l' (wL w (m + 33) l)) (m + 34) l' (wL w (m + 34) l)) (m + 24) l' = 1 ∧ wI (sL (sL (sI (sI (sI (sI (sI w1 (m + 28) l' (wI w (m + 28) l)) (m + 29) l' (wI w (m + 29) l)) (m + 30) l' (wI w (m + 30) l)) (m + 31) l' (wI w (m + 31) l)) (m + 32) l' (wI w (m + 32) l)) (m + 33) l' (wL w (m + 33) l)) (m + 34) l' (wL w (m + 34) l)) (m + 25) l' = t.1.1 ∧ wI (sL (sL (sI (sI (sI (sI (sI w1 (m + 28) l' (wI w (m + 28) l)) (m + 29) l' (wI w (m + 29) l)) (m + 30) l' (wI w (m + 30) l)) (m + 31) l' (wI w (m + 31) l)) (m + 32) l' (wI w (m + 32) l)) (m + 33) l' (wL w (m + 33) l)) (m + 34) l' (wL w (m + 34) l)) (m + 26) l' = t.1.2.1 ∧ wI (sL (sL (sI (sI (sI (sI (sI w1 (m + 28) l' (wI w (m + 28) l)) (m + 29) l' (wI w (m + 29) l)) (m + 30) l' (wI w (m + 30) l)) (m + 31) l' (wI w (m + 31) l)) (m + 32) l' (wI w (m + 32) l)) (m + 33) l' (wL w (m + 33) l)) (m + 34) l' (wL w (m + 34) l)) (m + 27) l' = t.1.2.2 := ⟨by simpa [wI_s, (wsL _ _ _ _).2.2.2.1] using u1, by simpa [wI_s, (wsL _ _ _ _).2.2.2.1] using u2, by simpa [wI_s, (wsL _ _ _ _).2.2.2.1] using u3, by simpa [wI_s, (wsL _ _ _ _).2.2.2.1] using u4⟩
  have F2 : ∀ j, 28 ≤ j → j ≤ 32 → wI (sL (sL (sI (sI (sI (sI (sI w1 (m + 28) l' (wI w (m + 28) l)) (m + 29) l' (wI w (m + 29) l)) (m + 30) l' (wI w (m + 30) l)) (m + 31) l' (wI w (m + 31) l)) (m + 32) l' (wI w (m + 32) l)) (m + 33) l' (wL w (m + 33) l)) (m + 34) l' (wL w (m + 34) l)) (m + j) l' = wI w (m + j) l := by
    intro j a b
    have : j = 28 ∨ j = 29 ∨ j = 30 ∨ j = 31 ∨ j = 32 := by omega
    rcases this with rfl | rfl | rfl | rfl | rfl <;> simp [wI_s, (wsL _ _ _ _).2.2.2.1]
  have F3 : wL (sL (sL (sI (sI (sI (sI (sI w1 (m + 28) l' (wI w (m + 28) l)) (m + 29) l' (wI w (m + 29) l)) (m + 30) l' (wI w (m + 30) l)) (m + 31) l' (wI w (m + 31) l)) (m + 32) l' (wI w (m + 32) l)) (m + 33) l' (wL w (m + 33) l)) (m + 34) l' (wL w (m + 34) l)) (m + 33) l' = wL w (m + 33) l ∧ wL (sL (sL (sI (sI (sI (sI (sI w1 (m + 28) l' (wI w (m + 28) l)) (m + 29) l' (wI w (m + 29) l)) (m + 30) l' (wI w (m + 30) l)) (m + 31) l' (wI w (m + 31) l)) (m + 32) l' (wI w (m + 32) l)) (m + 33) l' (wL w (m + 33) l)) (m + 34) l' (wL w (m + 34) l)) (m + 34) l' = wL w (m + 34) l := by simp [wL_s]
  generalize sL (sL (sI (sI (sI (sI (sI w1 (m + 28) l' (wI w (m + 28) l)) (m + 29) l' (wI w (m + 29) l)) (m + 30) l' (wI w (m + 30) l)) (m + 31) l' (wI w (m + 31) l)) (m + 32) l' (wI w (m + 32) l)) (m + 33) l' (wL w (m + 33) l)) (m + 34) l' (wL w (m + 34) l) = w7 at hM8 g8 F1 F2 F3 ⊢
  -- the end: the letter, as it is now, goes
  have fin : ∀ w9, isM w9 m → SlotF m l' w w9 → LTM w9 m l' t → ok (f_X6_twin_366 m (nI l) (nI l') w9) (fun v w' => v = t.1.1 ∧ RMF w' m S le (goL sc row) cl mem kept up dy (goR row t) held fl ∧ Mf m w w') := by
    intro w9 hM9 g9 ht9
    obtain ⟨hA, fA⟩ := h.alloc hl' h0 g9 ht9
    unfold f_X6_twin_366
    refine ok_chk hM9.1 <| ok_call (m_go' hA) (fun _ wB z => ?_)
    obtain ⟨hB, fB, xB⟩ := z
    have hMB := hB.1.1
    refine ok_mR hMB 25 <| ok_mA (v := t.1.1) hMB rfl hl ?_ <| ok_ret ⟨rfl, hB, fA.tr fB⟩
    rw [xB.I (by omega), (g9.2.2.2.1 25 l (by omega) (by omega) hne).1]
    exact b25
  refine ok_mR hM8 25 <| ok_mA (v := t.1.1) hM8 rfl hl (by rw [(g8.2.2.2.1 25 l (by omega) (by omega) hne).1]; exact b25) <| ok_if (fun c => ?_) (fun c => ?_)
  · obtain ⟨s1, s2, s3, s4, s5, s6, s7, s8⟩ := t3 c
    refine l_twin_156 (x1 := 0) (x2 := 0) (x3 := 0) hl hl' hne FU 0 w7 (by unfold FU; omega) (by omega) hM8 (fun wa qa xa ia oa na _ => ?_)
    have ga := g8.l35 xa ia oa
    unfold f_X6_twin_190
    refine l_twin_193 (x1 := 0) (x2 := 0) (x3 := 0) hl hl' hne FU 0 wa (by unfold FU; omega) (by omega) qa (fun wb qb xb ob nb _ => ?_)
    have gb := ga.l36 xb ob
    unfold f_X6_twin_302
    refine l_twin_305 (x1 := 0) (x2 := 0) (x3 := 0) hl hl' hne FU 0 wb (by unfold FU; omega) (by omega) qb (fun wc qc xc ic oc nc _ => ?_)
    have gc := gb.l40 xc oc
    have I : ∀ j, 24 ≤ j → j ≤ 34 → wI wc (m + j) l' = wI w7 (m + j) l' := fun j a b => by rw [xc.I (by omega), xb.I (by omega), ia]
    refine fin wc qc gc ⟨⟨hl', ?_, ?_, ?_, ?_, ?_, ?_⟩, fun e => absurd (e.symm.trans c) (by decide), fun e => absurd (e.symm.trans c) (by decide), fun e => ⟨?_, s2, s3, ?_, fun k hk => ?_, fun p r hp => ?_, fun p hp => ?_, fun p hp => ?_⟩, fun e => absurd (e.symm.trans c) (by decide)⟩
    · rw [I 24 (by omega) (by omega)]; exact F1.1
    · rw [I 25 (by omega) (by omega)]; exact F1.2.1
    · rw [I 26 (by omega) (by omega)]; exact F1.2.2.1
    · rw [I 27 (by omega) (by omega)]; exact F1.2.2.2
    · rw [I 28 (by omega) (by omega), F2 28 (by omega) (by omega)]; exact b28
    · rw [I 29 (by omega) (by omega), F2 29 (by omega) (by omega)]; exact b29
    · rw [I 30 (by omega) (by omega), F2 30 (by omega) (by omega)]; exact s1
    · rw [I 31 (by omega) (by omega), F2 31 (by omega) (by omega)]; exact s4
    · rw [ic, xb.L (by omega), na k hk (by omega), g8.2.2.2.2.1 _ (by rcases Nat.lt_or_gt_of_ne hne with z | z <;> omega)]
      exact s5 k hk
    · have hpl : p < 12 := by have := (List.getElem?_eq_some_iff.mp hp).1; omega
      have hn12 : 12 * l + p < 12 * l' ∨ 12 * l' + 12 ≤ 12 * l + p := by rcases Nat.lt_or_gt_of_ne hne with z | z <;> omega
      rw [← s6 p r hp]
      have e1 : mrecM wc m l' p = rec4 wb m 36 l' p := by
        unfold mrecM rec4
        rw [xc.I (q := m + 36) (by omega), xc.I (q := m + 37) (by omega), xc.I (q := m + 38) (by omega), ic]
      have e2 : rec4 wa m 36 l p = mrecM w m l p := by
        unfold mrecM rec4
        rw [ia, xa.L (q := m + (36 + 3)) (by omega), (g8.2.2.2.2.2.1 36 _ (by omega) (by omega) hn12).1]
        show (_, wI w7 (m + 37) _, wI w7 (m + 38) _, wL w7 (m + 39) _) = _
        rw [(g8.2.2.2.2.2.1 37 _ (by omega) (by omega) hn12).1, (g8.2.2.2.2.2.1 38 _ (by omega) (by omega) hn12).1, (g8.2.2.2.2.2.1 39 _ (by omega) (by omega) hn12).2]
      rw [e1, nb p hpl (by omega), e2]
    · have hn6 : 6 * l + p < 6 * l' ∨ 6 * l' + 6 ≤ 6 * l + p := by rcases Nat.lt_or_gt_of_ne hne with z | z <;> omega
      rw [(nc p hp (by omega)).1, xb.I (by omega), ia, g8.2.2.2.2.2.2 40 _ (by omega) (by omega) hn6]
      exact s7 p hp
    · have hn6 : 6 * l + p < 6 * l' ∨ 6 * l' + 6 ≤ 6 * l + p := by rcases Nat.lt_or_gt_of_ne hne with z | z <;> omega
      rw [(nc p hp (by omega)).2, xb.I (by omega), ia, g8.2.2.2.2.2.2 41 _ (by omega) (by omega) hn6]
      exact s8 p hp
  · refine fin w7 hM8 g8 ⟨⟨hl', F1.1, F1.2.1, F1.2.2.1, F1.2.2.2, by rw [F2 28 (by omega) (by omega)]; exact b28, by rw [F2 29 (by omega) (by omega)]; exact b29⟩, fun e => ?_, fun e => ?_, fun e => absurd e c, fun e => ?_⟩
    · rw [F2 30 (by omega) (by omega), F2 31 (by omega) (by omega), F2 32 (by omega) (by omega), F3.1, F3.2]; exact t1 e
    · rw [F2 30 (by omega) (by omega), F3.1]; exact t2 e
    · rw [F2 31 (by omega) (by omega)]; exact t4 e
theorem c_twin (h : RC w o S le sc cl mem kept up cn row held) {i : Nat} (hi : i < row.length) (hfull : ¬ row.length = 400) : ok (f_X5_twin o (nI i) w) (fun v w' => v = row[i].1.1 ∧ RC w' o S le (goL sc row) cl mem kept up cn (goR row row[i]) held ∧ Cf o S w w') := by
  have k0 := h.2.1.1.1
  have r2 := h.2.1.1.2.2.2
  obtain ⟨La, hr, hl⟩ := h.2.2.2.2.2.1
  have hc := hr.2.2.2.2.2.1
  obtain ⟨x, e1, e2, e3, e4⟩ := c_at h hi
  unfold f_X5_twin goL goR
  rw [if_neg hfull, if_neg hfull]
  refine ok_gR k0 r2 <| ok_chk hr.1 <| ok_use e1 <| ok_f (by simp) <| ok_gR k0 r2 <| ok_chk hr.1 <| ok_call (c_app (S := S) (o := o) hr hl (by unfold aRw aMo; omega) e2 e3 e4 h.1.2.2.1 (by have := hl.1; omega)) (fun v w1 z => ?_)
  obtain ⟨rfl, z1, z2, z3, z4, z5⟩ := z
  obtain ⟨h1, f1⟩ := h.rw_ z1 z2 z3 z4 z5
  have e5 := e2.cf e3 e4 f1
  exact ok_f (by decide) <| ok_gI e5.1.1 e5.1.2.1 <| ok_ret ⟨rfl, h1, f1⟩
theorem st_twin (x : Int32) : Same2 o S le (f_X5_twin o x) (f_X6_twin (aMo o S) x) := by
  rintro w k hk ⟨sc, cl, mem, kept, up, dy, row, held, hR, hI⟩
  obtain ⟨e50, h400⟩ := hR.2.e50
  have hor := in_row (L := row.length) (by omega) x
  obtain ⟨La, hr, hl⟩ := hR.1.2.2.2.2.2.1
  have k0 := hR.1.2.1.1.1
  have r2 := hR.1.2.1.1.2.2.2
  by_cases hn : 0 ≤ x ∧ x ≤ nI row.length - 1
  · obtain ⟨i, hi, rfl⟩ := hor.mp hn
    by_cases hfull : row.length = 400
    · obtain ⟨y, e1, e2, e3, e4⟩ := c_at hR.1 hi
      refine mkSame (r := -2) hR hI hk (ok_eq ?_) (ok_eq ?_)
      · unfold f_X5_twin
        exact ok_gR k0 r2 <| ok_chk hr.1 <| ok_use e1 <| ok_f (by simp) <| ok_gR k0 r2 <| ok_chk hr.1 <| ok_use (row_full hr (some y) (by rw [hl.1]; exact hfull)) <| ok_t rfl <| ok_ret ⟨rfl, rfl⟩
      · unfold f_X6_twin
        refine ok_gI hR.2.1.1.1 e50 (ok_use m_in ?_)
        rw [if_pos hn]
        refine ok_f (by decide) <| ok_gI hR.2.1.1.1 e50 <| ok_t ?_ <| ok_ret ⟨rfl, rfl⟩
        rw [hfull]; rfl
    · obtain ⟨op, -, -, -, -, hrow, -⟩ := hI.2.1
      have hkn := (hrow row[i] (List.getElem_mem hi)).knd
      refine mkStep hR (c_twin hR.1 hi hfull) (fun w1 h1 => m_twin h1 hR.1.1.2.1 (by simp) hi hfull hkn) (hI.go hk (fun op b0 b1 b2 b3 => b3 _ (List.getElem_mem hi)))
  · refine mkSame (r := -1) hR hI hk (ok_eq ?_) (ok_eq ?_)
    · unfold f_X5_twin
      exact ok_gR k0 r2 (ok_chk hr.1 (ok_use (c_at_out hR.1 (fun z => hn (hor.mpr z))) (ok_t rfl (ok_ret ⟨rfl, rfl⟩))))
    · unfold f_X6_twin
      refine ok_gI hR.2.1.1.1 e50 (ok_use m_in ?_)
      rw [if_neg hn]
      exact ok_t rfl (ok_ret ⟨rfl, rfl⟩)
end TW
