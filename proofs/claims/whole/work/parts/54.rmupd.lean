/-! THE REFERENCE's PART, piece by piece -/
section RMU
variable {w w' : Wd} {m S : Nat} {le : Int32} {sc : Nat → Int32} {cl : Nat → ClD} {mem kept : Nat → Nat → BkD} {up dy : Nat → Bool} {row : List Ltr} {held : Nat → List Ltr} {fl : List (Nat × Ltr)}
/-- only the cells of the arrays (and of the object) that X names were written -/
def Mx (m : Nat) (X : Nat → Prop) (w w' : Wd) : Prop := wn w' = wn w ∧ wK w' = wK w ∧ wN w' = wN w ∧ wR w' = wR w ∧ (∀ q, ¬ X q → wI w' q = wI w q ∧ wL w' q = wL w q) ∧ ∀ q, X q → m ≤ q ∧ q ≤ m + 44
theorem Mx.mf {X : Nat → Prop} (h : Mx m X w w') : Mf m w w' := ⟨h.1, h.2.1, h.2.2.1, h.2.2.2.1, fun q hq => h.2.2.2.2.1 q (fun z => by have := h.2.2.2.2.2 q z; omega)⟩
theorem Mx.I {X : Nat → Prop} (h : Mx m X w w') {q : Nat} (hq : ¬ X q) : wI w' q = wI w q := (h.2.2.2.2.1 q hq).1
theorem Mx.L {X : Nat → Prop} (h : Mx m X w w') {q : Nat} (hq : ¬ X q) : wL w' q = wL w q := (h.2.2.2.2.1 q hq).2
theorem Mx.rf {X : Nat → Prop} (hX : ∀ q, X q → m ≤ q ∧ q ≤ m + 44) : Mx m X w w := ⟨rfl, rfl, rfl, rfl, fun _ _ => ⟨rfl, rfl⟩, hX⟩
theorem Mx.tr {X : Nat → Prop} {w1 w2 : Wd} (h1 : Mx m X w w1) (h2 : Mx m X w1 w2) : Mx m X w w2 := ⟨h2.1.trans h1.1, h2.2.1.trans h1.2.1, h2.2.2.1.trans h1.2.2.1, h2.2.2.2.1.trans h1.2.2.2.1, fun q hq => ⟨(h2.I hq).trans (h1.I hq), (h2.L hq).trans (h1.L hq)⟩, h1.2.2.2.2.2⟩
theorem Mx.mono {X Y : Nat → Prop} (h : Mx m X w w') (hXY : ∀ q, X q → Y q) (hY : ∀ q, Y q → m ≤ q ∧ q ≤ m + 44) : Mx m Y w w' := ⟨h.1, h.2.1, h.2.2.1, h.2.2.2.1, fun q hq => h.2.2.2.2.1 q (fun z => hq (hXY q z)), hY⟩
theorem Mx.sI {X : Nat → Prop} {a k : Nat} {v : Int32} (h : Mx m X w w') (ha : X a) : Mx m X w (sI w' a k v) := ⟨h.1, h.2.1, h.2.2.1, h.2.2.2.1, fun q hq => ⟨(up2_n _ _ _ (fun e => hq (by rw [e]; exact ha))).trans (h.I hq), h.L hq⟩, h.2.2.2.2.2⟩
theorem Mx.sL {X : Nat → Prop} {a k : Nat} {v : Int64} (h : Mx m X w w') (ha : X a) : Mx m X w (sL w' a k v) := ⟨h.1, h.2.1, h.2.2.1, h.2.2.2.1, fun q hq => ⟨h.I hq, (up2_n _ _ _ (fun e => hq (by rw [e]; exact ha))).trans (h.L hq)⟩, h.2.2.2.2.2⟩
theorem LTM.kp {X : Nat → Prop} {l : Nat} {t : Ltr} (h : LTM w m l t) (g : Mx m X w w') (hX : ∀ j, 24 ≤ j → j ≤ 41 → ¬ X (m + j)) : LTM w' m l t := by
  unfold LTM mrecM at h ⊢
  rw [g.I (hX 24 (by omega) (by omega)), g.I (hX 25 (by omega) (by omega)), g.I (hX 26 (by omega) (by omega)), g.I (hX 27 (by omega) (by omega)), g.I (hX 28 (by omega) (by omega)), g.I (hX 29 (by omega) (by omega)), g.I (hX 30 (by omega) (by omega)), g.I (hX 31 (by omega) (by omega)), g.I (hX 32 (by omega) (by omega)), g.L (hX 33 (by omega) (by omega)), g.L (hX 34 (by omega) (by omega)), g.L (hX 35 (by omega) (by omega)), g.I (hX 36 (by omega) (by omega)), g.I (hX 37 (by omega) (by omega)), g.I (hX 38 (by omega) (by omega)), g.L (hX 39 (by omega) (by omega)), g.I (hX 40 (by omega) (by omega)), g.I (hX 41 (by omega) (by omega))]
  exact h
theorem BKM.kp {X : Nat → Prop} {a : Nat} {d : BkD} (h : BKM w m a d) (g : Mx m X w w') (hX : ∀ j, 11 ≤ j → j ≤ 21 → ¬ X (m + j)) : BKM w' m a d := by
  unfold BKM recM at h ⊢
  rw [g.I (hX 11 (by omega) (by omega)), g.I (hX 12 (by omega) (by omega)), g.I (hX 13 (by omega) (by omega)), g.L (hX 14 (by omega) (by omega)), g.I (hX 15 (by omega) (by omega)), g.I (hX 16 (by omega) (by omega)), g.I (hX 17 (by omega) (by omega)), g.I (hX 18 (by omega) (by omega)), g.L (hX 19 (by omega) (by omega)), g.I (hX 20 (by omega) (by omega)), g.I (hX 21 (by omega) (by omega))]
  exact h
theorem CMd.kp {X : Nat → Prop} {c : Nat} {d : ClD} (h : CMd w m c d) (g : Mx m X w w') (hX : ∀ j, 1 ≤ j → j ≤ 10 → ¬ X (m + j)) : CMd w' m c d := by
  unfold CMd CLM calM at h ⊢
  rw [g.I (hX 1 (by omega) (by omega)), g.I (hX 2 (by omega) (by omega)), g.I (hX 3 (by omega) (by omega)), g.I (hX 4 (by omega) (by omega)), g.I (hX 5 (by omega) (by omega)), g.L (hX 6 (by omega) (by omega)), g.I (hX 7 (by omega) (by omega)), g.I (hX 8 (by omega) (by omega)), g.L (hX 9 (by omega) (by omega)), g.L (hX 10 (by omega) (by omega))]
  exact h
/-- all pieces outside X are as they were -/
theorem RMF.pieces (h : RMF w m S le sc cl mem kept up dy row held fl) {X : Nat → Prop} (g : Mx m X w w') :
    isM w' m ∧ (¬ X m → RMo w' m S le sc) ∧ ((∀ j, 1 ≤ j → j ≤ 10 → ¬ X (m + j)) → ∀ c, c < 6 → CMd w' m c (cl c)) ∧ (¬ X (m + 22) → ¬ X (m + 23) → ∀ s, s < S → wI w' (m + 22) s = bI (up s) ∧ wI w' (m + 23) s = bI (dy s)) ∧ ((∀ j, 11 ≤ j → j ≤ 21 → ¬ X (m + j)) → ∀ s b, s < S → b < 8 → (up s = true → BKM w' m (16 * s + b) (mem s b)) ∧ BKM w' m (16 * s + 8 + b) (kept s b)) ∧ (¬ X m → (∀ j, 24 ≤ j → j ≤ 44 → ¬ X (m + j)) → ∃ (Lr : List Nat) (Lh : Nat → List Nat), (RMr w' m Lr ∧ LtsM w' m Lr row) ∧ (∀ s, s < S → RMh w' m s (Lh s) ∧ LtsM w' m (Lh s) (held s)) ∧ Pool w' m S Lr Lh fl ∧ ∀ (l : Nat) (t : Ltr), (l, t) ∈ fl → LTM w' m l t) := by
  obtain ⟨h1, h2, h3, h4, Lr, Lh, h5, h6, h7, h8⟩ := h
  have hM : isM w' m := h1.1.f g.mf
  refine ⟨hM, fun n => ?_, fun n c hc => (h2 c hc).kp g n, fun n1 n2 s hs => ?_, fun n s b hs hb => ⟨fun hu => ((h4 s b hs hb).1 hu).kp g n, (h4 s b hs hb).2.kp g n⟩, fun n0 n => ⟨Lr, Lh, ⟨?_, h5.2.1, fun i l t hl ht => (h5.2.2 i l t hl ht).kp g (fun j a b => n j a (by omega))⟩, fun s hs => ⟨?_, (h6 s hs).2.1, fun i l t hl ht => ((h6 s hs).2.2 i l t hl ht).kp g (fun j a b => n j a (by omega))⟩, ?_, fun l t he => (h8 l t he).kp g (fun j a b => n j a (by omega))⟩⟩
  · refine ⟨hM, ?_⟩
    rw [g.I n]; exact h1.2
  · rw [g.I n1, g.I n2]; exact h3 s hs
  · have := h5.1
    unfold RMr at this ⊢
    rw [g.I n0, g.I (n 42 (by omega) (by omega))]; exact this
  · have := (h6 s hs).1
    unfold RMh at this ⊢
    rw [g.I (n 43 (by omega) (by omega)), g.I (n 44 (by omega) (by omega))]; exact this
  · unfold Pool at h7 ⊢
    rw [g.I (n 24 (by omega) (by omega))]; exact h7
/-- a number of the object's -/
theorem RMF.num (h : RMF w m S le sc cl mem kept up dy row held fl) {k j : Nat} {v : Int32} (hk : (k = 2 ∧ j = 0) ∨ (k = 3 ∧ j = 1) ∨ (k = 4 ∧ j = 2) ∨ (k = 5 ∧ j = 3) ∨ (k = 6 ∧ j = 4)) : RMF (sI w m k v) m S le (va_up sc j v) cl mem kept up dy row held fl ∧ Mf m w (sI w m k v) := by
  have g : Mx m (fun q => q = m) w (sI w m k v) := (Mx.rf (fun q hq => by omega)).sI rfl
  obtain ⟨p0, p1, p2, p3, p4, p5⟩ := h.pieces g
  obtain ⟨h1, -, -, -, Lr, Lh, h5, h6, h7, h8⟩ := h
  refine ⟨⟨?_, p2 (fun j a b => by omega), p3 (by omega) (by omega), p4 (fun j a b => by omega), Lr, Lh, ⟨?_, h5.2.1, fun i l t hl ht => (h5.2.2 i l t hl ht).kp g (fun j a b => by omega)⟩, fun s hs => ⟨?_, (h6 s hs).2.1, fun i l t hl ht => ((h6 s hs).2.2 i l t hl ht).kp g (fun j a b => by omega)⟩, ?_, fun l t he => (h8 l t he).kp g (fun j a b => by omega)⟩, g.mf⟩
  · obtain ⟨-, a1, a2, a3, a4, a5, a6, a7, fr, a8, a9⟩ := h1
    unfold RMo
    rcases hk with ⟨rfl, rfl⟩ | ⟨rfl, rfl⟩ | ⟨rfl, rfl⟩ | ⟨rfl, rfl⟩ | ⟨rfl, rfl⟩ <;> exact ⟨p0, by simp [wI_s, a1], by simp [wI_s, a2], by simp [wI_s, va_up, a3], by simp [wI_s, va_up, a4], by simp [wI_s, va_up, a5], by simp [wI_s, va_up, a6], by simp [wI_s, va_up, a7], fr, a8, by simp [wI_s, a9]⟩
  · have := h5.1
    unfold RMr at this ⊢
    refine ⟨?_, this.2.1, fun i l hl => by rw [g.I (by omega)]; exact this.2.2 i l hl⟩
    rcases hk with ⟨rfl, rfl⟩ | ⟨rfl, rfl⟩ | ⟨rfl, rfl⟩ | ⟨rfl, rfl⟩ | ⟨rfl, rfl⟩ <;> simp [wI_s, this.1]
  · have := (h6 s hs).1
    unfold RMh at this ⊢
    rw [g.I (by omega), g.I (by omega)]; exact this
  · unfold Pool at h7 ⊢
    rw [g.I (by omega)]; exact h7
/-- client c's cells: its places in the ten arrays -/
theorem RMF.cli (h : RMF w m S le sc cl mem kept up dy row held fl) {c : Nat} (hc : c < 6) {d : ClD} (g : Mx m (fun q => m + 1 ≤ q ∧ q ≤ m + 10) w w') (g1 : ∀ j i, 1 ≤ j → j ≤ 3 → i ≠ c → wI w' (m + j) i = wI w (m + j) i) (g2 : ∀ i, (i < 8 * c ∨ 8 * c + 8 ≤ i) → wI w' (m + 4) i = wI w (m + 4) i) (g3 : ∀ j i, 5 ≤ j → j ≤ 10 → (i < 60 * c ∨ 60 * c + 60 ≤ i) → wI w' (m + j) i = wI w (m + j) i ∧ wL w' (m + j) i = wL w (m + j) i) (hd : CMd w' m c d) : RMF w' m S le sc (va_up cl c d) mem kept up dy row held fl ∧ Mf m w w' := by
  obtain ⟨p0, p1, p2, p3, p4, p5⟩ := h.pieces g
  refine ⟨⟨p1 (by omega), fun e he => ?_, p3 (by omega) (by omega), p4 (fun j a b => by omega), p5 (by omega) (fun j a b => by omega)⟩, g.mf⟩
  by_cases e1 : e = c
  · subst e1; rw [va_up_self]; exact hd
  · rw [va_up_ne _ _ e1]
    have hne : e < c ∨ c < e := by omega
    obtain ⟨a1, a2, a3, a4, a5, a6⟩ := h.2.1 e he
    refine ⟨by rw [g1 1 e (by omega) (by omega) e1]; exact a1, by rw [g1 2 e (by omega) (by omega) e1]; exact a2, by rw [g1 3 e (by omega) (by omega) e1]; exact a3, a4, fun i r hi => ?_, fun b hb => by rw [g2 _ (by omega)]; exact a6 b hb⟩
    have hil : i < 60 := by have := (List.getElem?_eq_some_iff.mp hi).1; omega
    rw [← a5 i r hi]
    unfold calM
    have n : 60 * e + i < 60 * c ∨ 60 * c + 60 ≤ 60 * e + i := by omega
    rw [(g3 5 _ (by omega) (by omega) n).1, (g3 6 _ (by omega) (by omega) n).2, (g3 7 _ (by omega) (by omega) n).1, (g3 8 _ (by omega) (by omega) n).1, (g3 9 _ (by omega) (by omega) n).2, (g3 10 _ (by omega) (by omega) n).2]
-- plain questions and numbers
theorem m_ticks (h : RMF w m S le sc cl mem kept up dy row held fl) (x : Int32) : ok (f_X6_ticks m x w) (fun v w' => (0 ≤ x ∧ x ≤ 1000 → v = sc 0 + x ∧ RMF w' m S le (va_up sc 0 (sc 0 + x)) cl mem kept up dy row held fl ∧ Mf m w w') ∧ (¬ (0 ≤ x ∧ x ≤ 1000) → v = -1 ∧ w' = w)) := by
  have k0 := h.1.1.1
  have i2 := h.1.2.2.2.1
  unfold f_X6_ticks
  refine ok_use m_in ?_
  by_cases c : 0 ≤ x ∧ x ≤ 1000
  · rw [if_pos c]
    exact ok_f (by decide) (ok_gI k0 i2 (ok_pI k0 (ok_gI k0 (v := sc 0 + x) (by rw [wI_s, if_pos ⟨rfl, rfl⟩]) (ok_ret ⟨fun _ => ⟨rfl, h.num (Or.inl ⟨rfl, rfl⟩)⟩, fun z => absurd c z⟩))))
  · rw [if_neg c]
    exact ok_t rfl (ok_ret ⟨fun z => absurd z c, fun _ => ⟨rfl, rfl⟩⟩)
theorem m_count (h : RMF w m S le sc cl mem kept up dy row held fl) (x : Int32) : f_X6_count m x w = some (if x = 0 then nI row.length else if x = 1 then sc 1 else if x = 2 then sc 2 else if x = 3 then sc 3 else if x = 4 then sc 0 else -1, w) := by
  obtain ⟨⟨hM, -, -, i2, i3, i4, i5, i6, -⟩, -, -, -, Lr, Lh, ⟨hr, hl⟩, -⟩ := h
  refine ok_eq ?_
  unfold f_X6_count
  refine ok_if (fun c0 => ok_gI hM.1 hr.1 (ok_ret ⟨?_, rfl⟩)) (fun c0 => ok_if (fun c1 => ok_gI hM.1 i3 (ok_ret ⟨?_, rfl⟩)) (fun c1 => ok_if (fun c2 => ok_gI hM.1 i4 (ok_ret ⟨?_, rfl⟩)) (fun c2 => ok_if (fun c3 => ok_gI hM.1 i5 (ok_ret ⟨?_, rfl⟩)) (fun c3 => ok_if (fun c4 => ok_gI hM.1 i2 (ok_ret ⟨?_, rfl⟩)) (fun c4 => ok_ret ⟨?_, rfl⟩)))))
  · rw [if_pos c0, hl.1]
  · rw [if_neg c0, if_pos c1]
  · rw [if_neg c0, if_neg c1, if_pos c2]
  · rw [if_neg c0, if_neg c1, if_neg c2, if_pos c3]
  · rw [if_neg c0, if_neg c1, if_neg c2, if_neg c3, if_pos c4]
  · rw [if_neg c0, if_neg c1, if_neg c2, if_neg c3, if_neg c4]
theorem out6 {x : Int32} (hx : x < 0 ∨ nI 6 ≤ x) : ¬ (0 ≤ x ∧ x ≤ 5) := by
  rintro ⟨h1, h2⟩
  rcases hx with h | h
  · exact absurd h (Int32.not_lt.mpr h1)
  · have := Int32.le_trans h h2
    rw [show (5 : Int32) = nI 5 from rfl, nI_leI (by omega) (by omega)] at this
    omega
theorem in6 {c : Nat} (hc : c < 6) : 0 ≤ nI c ∧ nI c ≤ 5 := ⟨nI_pos' (by omega), by rw [show (5 : Int32) = nI 5 from rfl, nI_leI (by omega) (by omega)]; omega⟩
theorem m_open_out {x : Int32} (hx : x < 0 ∨ nI 6 ≤ x) : f_X6_open m x w = some (-1, w) := by
  refine ok_eq ?_
  unfold f_X6_open
  refine ok_use m_isClient ?_
  rw [if_neg (out6 hx)]
  exact ok_t rfl (ok_ret ⟨rfl, rfl⟩)
theorem m_open_in (h : RMF w m S le sc cl mem kept up dy row held fl) {c : Nat} (hc : c < 6) : ok (f_X6_open m (nI c) w) (fun v w' => v = sc 4 + 1 ∧ RMF w' m S le (va_up sc 4 (sc 4 + 1)) (va_up cl c (sc 4 + 1, sc 0 + le, [], (cl c).2.2.2)) mem kept up dy row held fl ∧ Mf m w w') := by
  obtain ⟨hM, i0, i1, i2, i3, i4, i5, i6, -⟩ := h.1
  obtain ⟨r7, k7, n7⟩ := M_incarnation hM
  obtain ⟨r8, k8, n8⟩ := M_ends hM
  obtain ⟨r9, k9, n9⟩ := M_calls hM
  have k0 := hM.1
  obtain ⟨q1, f1⟩ := h.num (k := 6) (j := 4) (v := sc 4 + 1) (Or.inr (Or.inr (Or.inr (Or.inr ⟨rfl, rfl⟩))))
  unfold f_X6_open
  refine ok_use m_isClient ?_
  rw [if_pos (in6 hc)]
  refine ok_f (by decide) (ok_gI k0 i6 (ok_pI k0 (ok_gR k0 r7 (ok_gI k0 (v := sc 4 + 1) (by simp [wI_s]) (ok_tI rfl k7 (by show c < wN w (m + 1); omega) (by omega) (ok_gR k0 r8 (ok_gI k0 (v := sc 0) (by simp [wI_s]; exact i2) (ok_gI k0 (v := le) (by simp [wI_s]; exact i1) (ok_tI rfl k8 (by show c < wN w (m + 2); omega) (by omega) (ok_gR k0 r9 (ok_tI rfl k9 (by show c < wN w (m + 3); omega) (by omega) (ok_gI k0 (v := sc 4 + 1) (by simp [wI_s]) (ok_ret ⟨rfl, ?_⟩)))))))))))))
  have g : Mx m (fun q => m + 1 ≤ q ∧ q ≤ m + 10) (sI w m 6 (sc 4 + 1)) (sI (sI (sI (sI w m 6 (sc 4 + 1)) (m + 1) c (sc 4 + 1)) (m + 2) c (sc 0 + le)) (m + 3) c 0) := (((Mx.rf (fun q hq => by omega)).sI (by omega)).sI (by omega)).sI (by omega)
  obtain ⟨a1, a2, a3, a4, a5, a6⟩ := q1.2.1 c hc
  generalize hW : sI (sI (sI (sI w m 6 (sc 4 + 1)) (m + 1) c (sc 4 + 1)) (m + 2) c (sc 0 + le)) (m + 3) c 0 = w9 at g ⊢
  have e1 : ∀ j i, 1 ≤ j → j ≤ 3 → i ≠ c → wI w9 (m + j) i = wI (sI w m 6 (sc 4 + 1)) (m + j) i := by
    intro j i h1 h2 hi; rw [← hW]; simp [wI_s, hi]
  have e2 : ∀ i, wI w9 (m + 4) i = wI (sI w m 6 (sc 4 + 1)) (m + 4) i := by
    intro i; rw [← hW]; simp [wI_s]
  have e3 : ∀ j i, 5 ≤ j → j ≤ 10 → wI w9 (m + j) i = wI (sI w m 6 (sc 4 + 1)) (m + j) i ∧ wL w9 (m + j) i = wL (sI w m 6 (sc 4 + 1)) (m + j) i := by
    intro j i h1 h2
    rw [← hW]
    exact ⟨by rw [wI_s, if_neg (by omega), wI_s, if_neg (by omega), wI_s, if_neg (by omega)], rfl⟩
  have e4 : wI w9 (m + 1) c = sc 4 + 1 ∧ wI w9 (m + 2) c = sc 0 + le ∧ wI w9 (m + 3) c = 0 := by
    rw [← hW]; simp [wI_s]
  obtain ⟨q2, f2⟩ := q1.cli hc (d := (sc 4 + 1, sc 0 + le, [], (cl c).2.2.2)) g e1 (fun i _ => e2 i) (fun j i h1 h2 _ => e3 j i h1 h2) ⟨e4.1, e4.2.1, e4.2.2.trans nI_0.symm, by simp, fun i r hi => by simp at hi, fun b hb => (e2 _).trans (a6 b hb)⟩
  exact ⟨q2, f1.tr f2⟩
end RMU
