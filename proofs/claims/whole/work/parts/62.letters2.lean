/-! LETTERS OF THE REFERENCE: a new one; into the row; held; out of the row -/
section LF
variable {w w' : Wd} {m S : Nat} {le : Int32} {sc : Nat → Int32} {cl : Nat → ClD} {mem kept : Nat → Nat → BkD} {up dy : Nat → Bool} {row : List Ltr} {held : Nat → List Ltr} {fl : List (Nat × Ltr)}
theorem LtsM.app {Lr : List Nat} {l : Nat} {t : Ltr} (h : LtsM w m Lr row) (ht : LTM w m l t) : LtsM w m (Lr ++ [l]) (row ++ [t]) := by
  refine ⟨by simp [h.1], fun i x u hx hu => ?_⟩
  by_cases hi : i < Lr.length
  · rw [List.getElem?_append_left hi] at hx
    rw [List.getElem?_append_left (by rw [← h.1]; exact hi)] at hu
    exact h.2 i x u hx hu
  · have hi2 : i = Lr.length := by
      have := (List.getElem?_eq_some_iff.mp hx).1
      simp at this; omega
    subst hi2
    rw [List.getElem?_append_right (Nat.le_refl _), Nat.sub_self] at hx
    rw [h.1, List.getElem?_append_right (Nat.le_refl _), Nat.sub_self] at hu
    cases hx; cases hu
    exact ht
theorem LtsM.kp {X : Nat → Prop} {Lr : List Nat} (h : LtsM w m Lr row) (g : Mx m X w w') (hX : ∀ j, 24 ≤ j → j ≤ 41 → ¬ X (m + j)) : LtsM w' m Lr row := ⟨h.1, fun i l t hl ht => (h.2 i l t hl ht).kp g hX⟩
theorem cnt1 (l x : Nat) (L : List Nat) : (L ++ [l]).count x = L.count x + if l = x then 1 else 0 := by
  rw [List.count_append, List.count_cons]
  by_cases h : l = x <;> simp [h]
theorem cnt2 (l x : Nat) (L : List Nat) : (l :: L).count x = L.count x + if l = x then 1 else 0 := by
  rw [List.count_cons]
  by_cases h : l = x <;> simp [h]
/-- the letter in hand goes into the row -/
theorem RMF.push {l : Nat} {t : Ltr} (h : RMF w m S le sc cl mem kept up dy row held ((l, t) :: fl)) (hl : row.length < 400) : RMF (sI (sI w (m + 42) row.length (nI l)) m 50 (nI (row.length + 1))) m S le sc cl mem kept up dy (row ++ [t]) held fl ∧ Mf m w (sI (sI w (m + 42) row.length (nI l)) m 50 (nI (row.length + 1))) := by
  have g : Mx m (fun q => q = m ∨ q = m + 42) w (sI (sI w (m + 42) row.length (nI l)) m 50 (nI (row.length + 1))) := ((Mx.rf (fun q hq => by omega)).sI (Or.inr rfl)).sI (Or.inl rfl)
  have e50 : wI (sI (sI w (m + 42) row.length (nI l)) m 50 (nI (row.length + 1))) m 50 = nI (row.length + 1) := by simp [wI_s]
  have em : ∀ k, k ≠ 50 → wI (sI (sI w (m + 42) row.length (nI l)) m 50 (nI (row.length + 1))) m k = wI w m k := fun k hk => by rw [wI_s, if_neg (fun z => hk z.2), wI_s, if_neg (by omega)]
  have e42 : ∀ i, wI (sI (sI w (m + 42) row.length (nI l)) m 50 (nI (row.length + 1))) (m + 42) i = if i = row.length then nI l else wI w (m + 42) i := fun i => by simp [wI_s]
  generalize sI (sI w (m + 42) row.length (nI l)) m 50 (nI (row.length + 1)) = w' at *
  obtain ⟨p0, p1, p2, p3, p4, p5⟩ := h.pieces g
  obtain ⟨h1, -, -, -, Lr, Lh, ⟨h5, h5'⟩, h6, h7, h8⟩ := h
  have hX : ∀ j, 24 ≤ j → j ≤ 41 → ¬ (m + j = m ∨ m + j = m + 42) := fun j a b => by omega
  have hLr := h5'.1
  refine ⟨⟨?_, p2 (fun j a b => by omega), p3 (by omega) (by omega), p4 (fun j a b => by omega), Lr ++ [l], Lh, ⟨⟨?_, ?_, fun i x hx => ?_⟩, (h5'.kp g hX).app ((h8 l t (List.mem_cons_self ..)).kp g hX)⟩, fun s hs => ⟨?_, (h6 s hs).2.kp g hX⟩, fun x hx => ?_, fun x u hx => (h8 x u (List.mem_cons_of_mem _ hx)).kp g hX⟩, g.mf⟩
  · obtain ⟨-, b1, b2, b3, b4, b5, b6, b7, b8⟩ := h1
    exact ⟨p0, by rw [em 0 (by omega)]; exact b1, by rw [em 1 (by omega)]; exact b2, by rw [em 2 (by omega)]; exact b3, by rw [em 3 (by omega)]; exact b4, by rw [em 4 (by omega)]; exact b5, by rw [em 5 (by omega)]; exact b6, by rw [em 6 (by omega)]; exact b7, by rw [em 48 (by omega)]; exact b8⟩
  · rw [e50, List.length_append, hLr]; rfl
  · rw [List.length_append, hLr]; simp; omega
  · rw [e42]
    by_cases hi : i = row.length
    · rw [if_pos hi]
      rw [hi, ← hLr, List.getElem?_append_right (Nat.le_refl _), Nat.sub_self] at hx
      cases hx; rfl
    · rw [if_neg hi]
      have hi2 : i < Lr.length := by
        have := (List.getElem?_eq_some_iff.mp hx).1
        simp at this; omega
      rw [List.getElem?_append_left hi2] at hx
      exact h5.2.2 i x hx
  · have := (h6 s hs).1
    unfold RMh at this ⊢
    rw [g.I (by omega), g.I (by omega)]; exact this
  · have a1 := h7 x hx
    rw [List.map_cons, cnt2] at a1
    rw [cnt1, g.I (by omega)]
    show _ + (if l = x then 1 else 0) + _ + _ = _
    have : ((l, t) : Nat × Ltr).1 = l := rfl
    rw [this] at a1
    omega
/-- the letter in hand is held at server s -/
theorem RMF.hold {l : Nat} {t : Ltr} {s : Nat} (h : RMF w m S le sc cl mem kept up dy row held ((l, t) :: fl)) (hs : s < S) (hl : (held s).length < 600) : RMF (sI (sI w (m + 43) (4200 * s + (held s).length) (nI l)) (m + 44) s (nI ((held s).length + 1))) m S le sc cl mem kept up dy row (va_up held s (held s ++ [t])) fl ∧ Mf m w (sI (sI w (m + 43) (4200 * s + (held s).length) (nI l)) (m + 44) s (nI ((held s).length + 1))) := by
  have g : Mx m (fun q => q = m + 43 ∨ q = m + 44) w (sI (sI w (m + 43) (4200 * s + (held s).length) (nI l)) (m + 44) s (nI ((held s).length + 1))) := ((Mx.rf (fun q hq => by omega)).sI (Or.inl rfl)).sI (Or.inr rfl)
  have e44 : ∀ i, wI (sI (sI w (m + 43) (4200 * s + (held s).length) (nI l)) (m + 44) s (nI ((held s).length + 1))) (m + 44) i = if i = s then nI ((held s).length + 1) else wI w (m + 44) i := fun i => by simp [wI_s]
  have e43 : ∀ i, wI (sI (sI w (m + 43) (4200 * s + (held s).length) (nI l)) (m + 44) s (nI ((held s).length + 1))) (m + 43) i = if i = 4200 * s + (held s).length then nI l else wI w (m + 43) i := fun i => by simp [wI_s]
  generalize sI (sI w (m + 43) (4200 * s + (held s).length) (nI l)) (m + 44) s (nI ((held s).length + 1)) = w' at *
  obtain ⟨p0, p1, p2, p3, p4, p5⟩ := h.pieces g
  obtain ⟨h1, -, -, -, Lr, Lh, ⟨h5, h5'⟩, h6, h7, h8⟩ := h
  have hX : ∀ j, 24 ≤ j → j ≤ 41 → ¬ (m + j = m + 43 ∨ m + j = m + 44) := fun j a b => by omega
  have hLs := (h6 s hs).2.1
  refine ⟨⟨p1 (by omega), p2 (fun j a b => by omega), p3 (by omega) (by omega), p4 (fun j a b => by omega), Lr, va_up Lh s (Lh s ++ [l]), ⟨?_, h5'.kp g hX⟩, fun p hp => ?_, fun x hx => ?_, fun x u hx => (h8 x u (List.mem_cons_of_mem _ hx)).kp g hX⟩, g.mf⟩
  · unfold RMr at h5 ⊢
    rw [g.I (by omega), g.I (by omega)]; exact h5
  · by_cases e : p = s
    · subst e
      rw [va_up_self, va_up_self]
      refine ⟨⟨?_, ?_, fun i x hx => ?_⟩, ((h6 p hp).2.kp g hX).app ((h8 l t (List.mem_cons_self ..)).kp g hX)⟩
      · rw [e44, if_pos rfl, List.length_append, hLs]; rfl
      · rw [List.length_append, hLs]; simp; omega
      · rw [e43]
        by_cases hi : i = (held p).length
        · rw [if_pos (by rw [hi])]
          rw [hi, ← hLs, List.getElem?_append_right (Nat.le_refl _), Nat.sub_self] at hx
          cases hx; rfl
        · rw [if_neg (by omega)]
          have hi2 : i < (Lh p).length := by
            have := (List.getElem?_eq_some_iff.mp hx).1
            simp at this; omega
          rw [List.getElem?_append_left hi2] at hx
          exact (h6 p hp).1.2.2 i x hx
    · rw [va_up_ne _ _ e, va_up_ne _ _ e]
      obtain ⟨⟨q1, q2, q3⟩, q4⟩ := h6 p hp
      refine ⟨⟨by rw [e44, if_neg e]; exact q1, q2, fun i x hx => ?_⟩, q4.kp g hX⟩
      have hi2 : i < (Lh p).length := (List.getElem?_eq_some_iff.mp hx).1
      rw [e43, if_neg (by rcases Nat.lt_trichotomy p s with z | z | z <;> omega)]
      exact q3 i x hx
  · have a1 := h7 x hx
    have a2 := sumTo_up hs Lh (Lh s ++ [l]) x
    rw [cnt1] at a2
    rw [List.map_cons, cnt2] at a1
    have : ((l, t) : Nat × Ltr).1 = l := rfl
    rw [this] at a1
    rw [g.I (by omega)]
    omega
theorem m_go' {l : Nat} {t : Ltr} (h : RMF w m S le sc cl mem kept up dy row held ((l, t) :: fl)) : ok (f_X6_go m (nI l) w) (fun _ w' => RMF w' m S le (goL sc row) cl mem kept up dy (goR row t) held fl ∧ Mf m w w' ∧ Mx m (fun q => q = m ∨ q = m + 24 ∨ q = m + 42) w w') := by
  have hM := h.1.1
  have m0 := hM.1
  obtain ⟨r30, k30, n30⟩ := M_used hM
  obtain ⟨r49, k49, n49⟩ := M_row hM
  have hl := h.hd_ne.1
  have i3 := h.1.2.2.2.2.1
  have e50 : wI w m 50 = nI row.length ∧ row.length ≤ 400 := by
    obtain ⟨-, -, -, -, Lr, Lh, ⟨h5, h5'⟩, -⟩ := h
    rw [← h5'.1]; exact ⟨h5.1, h5.2.1⟩
  unfold f_X6_go goL goR
  refine ok_gI m0 e50.1 (ok_if (fun c => ?_) (fun c => ?_))
  · rw [show (400 : Int32) = nI 400 from rfl, nI_eq (by omega) (by omega)] at c
    rw [if_pos c, if_pos c]
    obtain ⟨q1, f1⟩ := h.free
    refine ok_gR m0 r30 (ok_tZ rfl k30 (by omega) (by omega) (Or.inl rfl) (ok_gI m0 (q1.1.2.2.2.2.1) (ok_pI m0 (ok_ret ?_))))
    obtain ⟨q2, f2⟩ := q1.num (k := 3) (j := 1) (v := sc 1 + 1) (Or.inr (Or.inl ⟨rfl, rfl⟩))
    exact ⟨q2, f1.tr f2, ((Mx.rf (fun q hq => by omega)).sI (Or.inr (Or.inl rfl))).sI (Or.inl rfl)⟩
  · rw [show (400 : Int32) = nI 400 from rfl, nI_eq (by omega) (by omega)] at c
    rw [if_neg c, if_neg c]
    refine ok_gR m0 r49 (ok_gI m0 e50.1 (ok_tI rfl k49 (by omega) (by omega) (ok_gI (v := nI row.length) m0 (by rw [wI_so (by omega)]; exact e50.1) (ok_pI m0 (ok_ret ?_)))))
    rw [nI_1]
    exact ⟨(h.push (by omega)).1, (h.push (by omega)).2, ((Mx.rf (fun q hq => by omega)).sI (Or.inr (Or.inr rfl))).sI (Or.inl rfl)⟩
theorem m_go {l : Nat} {t : Ltr} (h : RMF w m S le sc cl mem kept up dy row held ((l, t) :: fl)) : ok (f_X6_go m (nI l) w) (fun _ w' => RMF w' m S le (goL sc row) cl mem kept up dy (goR row t) held fl ∧ Mf m w w') := ok_mono (m_go' h) (fun _ _ z => ⟨z.1, z.2.1⟩)
def sfL (d : Bool) (sc : Nat → Int32) (row : List Ltr) : Nat → Int32 := if d then sc else goL sc row
def sfR (d : Bool) (row : List Ltr) (t : Ltr) : List Ltr := if d then row else goR row t
def sfH (d : Bool) (held : Nat → List Ltr) (s : Nat) (t : Ltr) : Nat → List Ltr := if d then va_up held s (held s ++ [t]) else held
theorem m_sendFrom {l s : Nat} {t : Ltr} (h : RMF w m S le sc cl mem kept up dy row held ((l, t) :: fl)) (h4 : S ≤ 4) (hs : s < S) (hh : (held s).length < 600) : ok (f_X6_sendFrom m (nI s) (nI l) w) (fun _ w' => RMF w' m S le (sfL (dy s) sc row) cl mem kept up dy (sfR (dy s) row t) (sfH (dy s) held s t) fl ∧ Mf m w w') := by
  have hM := h.1.1
  have m0 := hM.1
  obtain ⟨r29, k29, n29⟩ := M_dirty hM
  obtain ⟨r51, k51, n51⟩ := M_held hM
  obtain ⟨r52, k52, n52⟩ := M_heldMany hM
  have hd := (h.2.2.1 s hs).2
  have e44 : wI w (m + 44) s = nI (held s).length := by
    obtain ⟨-, -, -, -, Lr, Lh, -, h6, -⟩ := h
    rw [← (h6 s hs).2.1]; exact (h6 s hs).1.1
  unfold f_X6_sendFrom sfL sfR sfH
  refine ok_gR m0 r29 (ok_aI rfl k29 (by omega) (by omega) hd (ok_if (fun c => ?_) (fun c => ?_)))
  · rw [bI_0 c]
    exact ok_chk m0 (ok_call (m_go h) (fun _ w1 z => ok_ret z))
  · rw [bI_1 c]
    refine ok_gR m0 r51 (ok_gR m0 r52 (ok_aI rfl k52 (by omega) (by omega) e44 (ok_tI (i4200 s _) k51 (by omega) (by omega) (ok_gR m0 r52 (ok_aI (v := nI (held s).length) rfl k52 (by show s < wN w _; omega) (by omega) (by rw [wI_so (by omega)]; exact e44) (ok_tI rfl k52 (by show s < wN w _; omega) (by omega) (ok_ret ?_)))))))
    rw [nI_1]
    exact h.hold hs hh
theorem m_shift {L : Nat} (hL : L < 400) (x : Int32) : ∀ (n j : Nat) (w : Wd), L < n + j → j ≤ L → isM w m → wI w m 50 = nI L → ok (f_X6_takeOut_19 n m x (nI j) w) (fun v w' => v = x ∧ Mx m (fun q => q = m + 42) w w' ∧ (∀ p, p < j → wI w' (m + 42) p = wI w (m + 42) p) ∧ (∀ p, j ≤ p → p < L → wI w' (m + 42) p = wI w (m + 42) (p + 1))) := by
  intro n
  induction n with
  | zero => intro j w h1 h2; omega
  | succ n ih =>
    intro j w h1 h2 hM h50
    obtain ⟨r49, k49, n49⟩ := M_row hM
    rw [f_X6_takeOut_19.eq_2]
    refine ok_gI hM.1 h50 (ok_if (fun c => ?_) (fun c => ?_))
    · rw [nI_leI (by omega) (by omega)] at c
      exact ok_ret ⟨rfl, Mx.rf (fun q hq => by omega), fun _ _ => rfl, fun p a b => by omega⟩
    · rw [nI_leI (by omega) (by omega)] at c
      refine ok_gR hM.1 r49 (ok_gR hM.1 r49 (ok_aI (n := j + 1) (nI_1 j) k49 (by omega) (by omega) rfl (ok_tI rfl k49 (by omega) (by omega) ?_)))
      rw [nI_1]
      refine ok_mono (ih (j + 1) _ (by omega) (by omega) hM (by rw [wI_so (by omega)]; exact h50)) (fun v w' z => ⟨z.1, ((Mx.rf (X := fun q => q = m + 42) (fun q hq => by omega)).sI rfl).tr z.2.1, fun p hp => ?_, fun p a b => ?_⟩)
      · rw [z.2.2.1 p (by omega), wI_s, if_neg (by omega)]
      · by_cases e : p = j
        · subst e
          rw [z.2.2.1 p (by omega), wI_s, if_pos ⟨rfl, rfl⟩]
        · rw [z.2.2.2 p (by omega) b, wI_s, if_neg (by omega)]
theorem cnt3 (x : Nat) : ∀ (L : List Nat) (i : Nat) (hi : i < L.length), L.count x = (L.eraseIdx i).count x + if L[i] = x then 1 else 0 := by
  intro L
  induction L with
  | nil => intro i hi; simp at hi
  | cons a L ih =>
    intro i hi
    cases i with
    | zero =>
      rw [List.eraseIdx_cons_zero, cnt2]
      rfl
    | succ i =>
      rw [List.eraseIdx_cons_succ, cnt2, cnt2, ih i (by simpa using hi)]
      simp only [List.getElem_cons_succ]
      omega
theorem m_takeOut (h : RMF w m S le sc cl mem kept up dy row held fl) {i : Nat} (hi : i < row.length) : ok (f_X6_takeOut m (nI i) w) (fun v w' => ∃ l, v = nI l ∧ RMF w' m S le sc cl mem kept up dy (row.eraseIdx i) held ((l, row[i]) :: fl) ∧ Mf m w w') := by
  have hM := h.1.1
  have m0 := hM.1
  obtain ⟨r49, k49, n49⟩ := M_row hM
  obtain ⟨h1, -, -, -, Lr, Lh, ⟨h5, h5'⟩, h6, h7, h8⟩ := id h
  have hLr := h5'.1
  have hil : i < Lr.length := by omega
  have h400 := h5.2.1
  unfold f_X6_takeOut
  obtain ⟨q, hq⟩ : ∃ q, Lr.length = q + 1 := ⟨Lr.length - 1, by omega⟩
  refine ok_gR m0 r49 (ok_aI rfl k49 (by omega) (by omega) (h5.2.2 i _ (List.getElem?_eq_getElem hil)) (ok_gI m0 (h5.1.trans (by rw [hq])) (ok_pI m0 ?_)))
  rw [nI_pred]
  refine ok_mono (m_shift (L := q) (by omega) _ FU i (sI w m 50 (nI q)) (by unfold FU; omega) (by omega) hM (by simp [wI_s])) ?_
  rintro v w' ⟨rfl, g0, s1, s2⟩
  have g : Mx m (fun q => q = m ∨ q = m + 42) w w' := ((Mx.rf (X := fun q => q = m ∨ q = m + 42) (fun q hq => by omega)).sI (Or.inl rfl)).tr (g0.mono (fun q hq => Or.inr hq) (fun q hq => by omega))
  have e50 : wI w' m 50 = nI q := by rw [g0.I (by omega)]; simp [wI_s]
  have em : ∀ k, k ≠ 50 → wI w' m k = wI w m k := fun k hk => by rw [g0.I (by omega), wI_s, if_neg (fun z => hk z.2)]
  have t1 : ∀ p, p < i → wI w' (m + 42) p = wI w (m + 42) p := fun p hp => by rw [s1 p hp, wI_so (by omega)]
  have t2 : ∀ p, i ≤ p → p < q → wI w' (m + 42) p = wI w (m + 42) (p + 1) := fun p a b => by rw [s2 p a b, wI_so (by omega)]
  obtain ⟨p0, p1, p2, p3, p4, p5⟩ := h.pieces g
  have hX : ∀ j, 24 ≤ j → j ≤ 41 → ¬ (m + j = m ∨ m + j = m + 42) := fun j a b => by omega
  refine ⟨Lr[i], rfl, ⟨?_, p2 (fun j a b => by omega), p3 (by omega) (by omega), p4 (fun j a b => by omega), Lr.eraseIdx i, Lh, ⟨⟨?_, ?_, fun p x hx => ?_⟩, ?_, fun p x u hx hu => ?_⟩, fun s hs => ⟨?_, (h6 s hs).2.kp g hX⟩, fun x hx => ?_, fun x u hx => ?_⟩, g.mf⟩
  · obtain ⟨-, b1, b2, b3, b4, b5, b6, b7, b8⟩ := h1
    exact ⟨p0, by rw [em 0 (by omega)]; exact b1, by rw [em 1 (by omega)]; exact b2, by rw [em 2 (by omega)]; exact b3, by rw [em 3 (by omega)]; exact b4, by rw [em 4 (by omega)]; exact b5, by rw [em 5 (by omega)]; exact b6, by rw [em 6 (by omega)]; exact b7, by rw [em 48 (by omega)]; exact b8⟩
  · rw [e50, List.length_eraseIdx_of_lt hil, hq]; rfl
  · rw [List.length_eraseIdx_of_lt hil]; omega
  · have hp : p < q := by
      have := (List.getElem?_eq_some_iff.mp hx).1
      rw [List.length_eraseIdx_of_lt hil] at this; omega
    rw [List.getElem?_eraseIdx] at hx
    by_cases c : p < i
    · rw [if_pos c] at hx
      rw [t1 p c]; exact h5.2.2 p x hx
    · rw [if_neg c] at hx
      rw [t2 p (by omega) hp]; exact h5.2.2 (p + 1) x hx
  · rw [List.length_eraseIdx_of_lt hil, List.length_eraseIdx_of_lt hi, hLr]
  · rw [List.getElem?_eraseIdx] at hx hu
    by_cases c : p < i
    · rw [if_pos c] at hx hu
      exact (h5'.2 p x u hx hu).kp g hX
    · rw [if_neg c] at hx hu
      exact (h5'.2 (p + 1) x u hx hu).kp g hX
  · have := (h6 s hs).1
    unfold RMh at this ⊢
    rw [g.I (by omega), g.I (by omega)]; exact this
  · have a1 := h7 x hx
    have a2 := cnt3 x Lr i hil
    rw [g.I (by omega), List.map_cons, cnt2]
    show _ + _ + (_ + (if Lr[i] = x then 1 else 0)) = _
    omega
  · rcases List.mem_cons.mp hx with e | e
    · cases e
      exact (h5'.2 i _ _ (List.getElem?_eq_getElem hil) (List.getElem?_eq_getElem hi)).kp g hX
    · exact (h8 x u e).kp g hX
end LF
