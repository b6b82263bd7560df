/-! CRASH, SYNC -/
section CR
variable {w w' : Wd} {o m S : Nat} {le : Int32} {sc : Nat → Int32} {cl : Nat → ClD} {mem kept : Nat → Nat → BkD} {up cn dy : Nat → Bool} {row : List Ltr} {held : Nat → List Ltr} {fl : List (Nat × Ltr)}
theorem RMF.e44 (h : RMF w m S le sc cl mem kept up dy row held fl) {s : Nat} (hs : s < S) : wI w (m + 44) s = nI (held s).length ∧ (held s).length ≤ 600 := by
  obtain ⟨-, -, -, -, Lr, Lh, -, h6, -⟩ := h
  rw [← (h6 s hs).2.1]; exact ⟨(h6 s hs).1.1, (h6 s hs).1.2.1⟩
theorem RMF.setUp (h : RMF w m S le sc cl mem kept up dy row held fl) {s : Nat} (hs : s < S) : RMF (sI w (m + 22) s 0) m S le sc cl mem kept (va_up up s false) dy row held fl ∧ Mf m w (sI w (m + 22) s 0) := by
  have x1 : Mx m (fun q => q = m + 22) w (sI w (m + 22) s 0) := (Mx.rf (fun q hq => by omega)).sI rfl
  refine h.re (x1.mono (fun q hq => by omega) (fun q hq => by omega)) (fun p hp => ?_) (fun p b hp hb => ⟨fun hup => ?_, ((h.2.2.2.1 p b hp hb).2).kp x1 (fun j a b => by omega)⟩)
  · rw [wI_s, wI_so (by omega)]
    obtain ⟨a1, a2⟩ := h.2.2.1 p hp
    by_cases e : p = s
    · subst e; rw [if_pos ⟨rfl, rfl⟩, va_up_self]; exact ⟨rfl, a2⟩
    · rw [if_neg (fun z => e z.2), va_up_ne _ _ e]; exact ⟨a1, a2⟩
  · by_cases e : p = s
    · subst e; rw [va_up_self] at hup; cases hup
    · rw [va_up_ne _ _ e] at hup
      exact ((h.2.2.2.1 p b hp hb).1 hup).kp x1 (fun j a b => by omega)
theorem LTM.us {X : Nat → Prop} {l : Nat} {t : Ltr} (h : LTM w m l t) (g : Mx m X w w') (hX : ∀ j, 25 ≤ j → j ≤ 41 → ¬ X (m + j)) (hu : wI w' (m + 24) l = wI w (m + 24) l) : LTM w' m l t := by
  unfold LTM mrecM at h ⊢
  rw [hu, g.I (hX 25 (by omega) (by omega)), g.I (hX 26 (by omega) (by omega)), g.I (hX 27 (by omega) (by omega)), g.I (hX 28 (by omega) (by omega)), g.I (hX 29 (by omega) (by omega)), g.I (hX 30 (by omega) (by omega)), g.I (hX 31 (by omega) (by omega)), g.I (hX 32 (by omega) (by omega)), g.L (hX 33 (by omega) (by omega)), g.L (hX 34 (by omega) (by omega)), g.L (hX 35 (by omega) (by omega)), g.I (hX 36 (by omega) (by omega)), g.I (hX 37 (by omega) (by omega)), g.I (hX 38 (by omega) (by omega)), g.L (hX 39 (by omega) (by omega)), g.I (hX 40 (by omega) (by omega)), g.I (hX 41 (by omega) (by omega))]
  exact h
theorem m_crash_loop {s : Nat} {Ls : List Nat} (hs : s < 4) (hL : Ls.length ≤ 600) {K : Nat → Int32 → Int32 → Wd → Option (Int32 × Wd)} {P : Int32 → Wd → Prop} : ∀ (n j : Nat) (w : Wd), Ls.length < n + j → j ≤ Ls.length → isM w m → (∀ (i l : Nat), Ls[i]? = some l → wI w (m + 43) (4200 * s + i) = nI l ∧ l < 4700) → (∀ w', isM w' m → Mx m (fun q => q = m + 24) w w' → (∀ l, l < 4700 → wI w' (m + 24) l = if l ∈ Ls.drop j then 0 else wI w (m + 24) l) → ok (K m (nI s) (nI Ls.length) w') P) → ok (f_X6_crash_38 K n m (nI s) (nI Ls.length) (nI j) w) P := by
  intro n
  induction n with
  | zero => intro j w a b; omega
  | succ n ih =>
    intro j w a b hM he hK
    rw [f_X6_crash_38.eq_2]
    refine ok_if (fun c => ?_) (fun c => ?_)
    · rw [nI_leI (by omega) (by omega)] at c
      refine hK w hM (Mx.rf (fun q hq => by omega)) (fun l _ => ?_)
      rw [List.drop_eq_nil_of_le c]
      simp
    · rw [nI_leI (by omega) (by omega)] at c
      have hj : j < Ls.length := by omega
      obtain ⟨e1, e2⟩ := he j _ (List.getElem?_eq_getElem hj)
      refine ok_mR hM 24 <| ok_mR hM 43 <| ok_mA hM (i4200 s j) (by show _ < 16800; omega) e1 <| ok_mTZ hM rfl e2 (Or.inl rfl) (fun hM1 => ?_)
      rw [nI_1]
      refine ih (j + 1) _ (by omega) (by omega) hM1 (fun i l hi => by rw [wI_so (by omega)]; exact he i l hi) (fun w' q1 q2 q3 => hK w' q1 (((Mx.rf (X := fun q => q = m + 24) (fun q hq => by omega)).sI rfl).tr q2) (fun l hl => ?_))
      rw [q3 l hl, wI_s, List.drop_eq_getElem_cons hj]
      by_cases e3 : l = Ls[j]
      · rw [if_pos (List.mem_cons.mpr (Or.inl e3)), if_pos (show m + 24 = m + 24 ∧ l = Ls[j] from ⟨rfl, e3⟩)]
        split <;> rfl
      · rw [if_neg (show ¬ (m + 24 = m + 24 ∧ l = Ls[j]) from fun z => e3 z.2)]
        by_cases e4 : l ∈ Ls.drop (j + 1)
        · rw [if_pos e4, if_pos (List.mem_cons_of_mem _ e4)]
        · rw [if_neg e4, if_neg (fun z => (List.mem_cons.mp z).elim e3 e4)]
/-- the letters that server s held are gone -/
theorem RMF.unheld (h : RMF w m S le sc cl mem kept up dy row held []) {s : Nat} (hs : s < S) {Lr : List Nat} {Lh : Nat → List Nat} (h5 : RMr w m Lr ∧ LtsM w m Lr row) (h6 : ∀ s, s < S → RMh w m s (Lh s) ∧ LtsM w m (Lh s) (held s)) (h7 : Pool w m S Lr Lh []) {w2 : Wd} (x2 : Mx m (fun q => q = m + 24) w w2) (hu : ∀ l, l < 4700 → wI w2 (m + 24) l = if l ∈ Lh s then 0 else wI w (m + 24) l) : RMF (sI w2 (m + 44) s 0) m S le sc cl mem kept up dy row (va_up held s []) [] ∧ Mf m w (sI w2 (m + 44) s 0) := by
  have g : Mx m (fun q => q = m + 24 ∨ q = m + 44) w (sI w2 (m + 44) s 0) := (x2.mono (fun q hq => Or.inl hq) (fun q hq => by omega)).sI (Or.inr rfl)
  have e24 : wI (sI w2 (m + 44) s 0) (m + 24) = wI w2 (m + 24) := wI_so (by omega)
  have e44 : ∀ i, wI (sI w2 (m + 44) s 0) (m + 44) i = if i = s then 0 else wI w (m + 44) i := fun i => by
    rw [wI_s, x2.I (by omega)]; simp
  generalize sI w2 (m + 44) s 0 = w3 at *
  obtain ⟨p0, p1, p2, p3, p4, p5⟩ := h.pieces g
  have hX : ∀ j, 25 ≤ j → j ≤ 41 → ¬ (m + j = m + 24 ∨ m + j = m + 44) := fun j a b => by omega
  -- a letter elsewhere isn't held at s
  have one : ∀ x, x < 4700 → Lr.count x + sumTo S (fun p => (Lh p).count x) ≤ 1 := fun x hx => by
    have := h7 x hx
    have h9 : (if wI w (m + 24) x = 0 then 0 else 1) ≤ 1 := by split <;> omega
    omega
  have ne1 : ∀ x, x < 4700 → x ∈ Lr → x ∉ Lh s := fun x hx h1 h2 => by
    have a1 := one x hx
    have a2 := List.count_pos_iff.mpr h1
    have a3 := List.count_pos_iff.mpr h2
    have a4 := sumTo_up hs Lh [] x
    simp at a4
    omega
  have ne2 : ∀ x p, x < 4700 → p < S → p ≠ s → x ∈ Lh p → x ∉ Lh s := fun x p hx hp hne h1 h2 => by
    have a1 := one x hx
    have a2 := List.count_pos_iff.mpr h1
    have a3 := List.count_pos_iff.mpr h2
    have a4 := sumTo_up hs Lh [] x
    have a5 := sumTo_up hp (va_up Lh s []) [] x
    rw [va_up_ne _ _ hne] at a5
    simp at a4 a5
    omega
  refine ⟨⟨p1 (by omega), p2 (fun j a b => by omega), p3 (by omega) (by omega), p4 (fun j a b => by omega), Lr, va_up Lh s [], ⟨?_, h5.2.1, fun i l t hl ht => ?_⟩, fun p hp => ?_, fun x hx => ?_, fun l t hlt => by simp at hlt⟩, g.mf⟩
  · have := h5.1
    unfold RMr at this ⊢
    rw [g.I (by omega), g.I (by omega)]; exact this
  · have hlt := h5.2.2 i l t hl ht
    refine hlt.us g hX ?_
    rw [e24, hu l hlt.1.1, if_neg (ne1 l hlt.1.1 (List.mem_of_getElem? hl))]
  · by_cases e : p = s
    · subst e
      rw [va_up_self, va_up_self]
      exact ⟨⟨by rw [e44, if_pos rfl]; exact nI_0.symm, by simp, fun i l hl => by simp at hl⟩, rfl, fun i l t hl => by simp at hl⟩
    · rw [va_up_ne _ _ e, va_up_ne _ _ e]
      obtain ⟨⟨q1, q2, q3⟩, q4, q5⟩ := h6 p hp
      refine ⟨⟨by rw [e44, if_neg e]; exact q1, q2, fun i l hl => by rw [g.I (by omega)]; exact q3 i l hl⟩, q4, fun i l t hl ht => ?_⟩
      have hlt := q5 i l t hl ht
      refine hlt.us g hX ?_
      rw [e24, hu l hlt.1.1, if_neg (ne2 l p hlt.1.1 hp e (List.mem_of_getElem? hl))]
  · have a1 := h7 x hx
    have a4 := sumTo_up hs Lh [] x
    have a5 := one x hx
    rw [e24, hu x hx]
    simp at a1 a4
    show Lr.count x + sumTo S (fun p => (va_up Lh s [] p).count x) + 0 = _
    by_cases e : x ∈ Lh s
    · have a3 := List.count_pos_iff.mpr e
      rw [if_pos e, if_pos rfl]
      omega
    · have a3 := List.count_eq_zero.mpr e
      rw [if_neg e]
      omega
theorem m_crash (h : RMF w m S le sc cl mem kept up dy row held []) (h2 : 2 ≤ S) (h4 : S ≤ 4) {s : Nat} (hs : s < S) (hu : up s = true) : ok (f_X6_crash m (nI s) w) (fun v w' => v = nI (held s).length ∧ RMF w' m S le (va_up sc 1 (sc 1 + nI (held s).length)) cl mem kept (va_up up s false) dy row (va_up held s []) [] ∧ Mf m w w') := by
  have hM := h.1.1
  have hmu := (h.2.2.1 s hs).1
  rw [hu] at hmu
  unfold f_X6_crash
  refine ok_chk hM.1 <| ok_use (m_sv_in h h2 h4 hs) <| ok_f (by decide) <| ok_mR hM 22 <| ok_mA hM rfl (by show s < 4; omega) hmu <| ok_f (by decide) <| ok_mR hM 22 <| ok_mTZ hM rfl (by show s < 4; omega) (Or.inl rfl) (fun hM1 => ?_)
  obtain ⟨h1, f1⟩ := h.setUp hs
  obtain ⟨-, -, -, -, Lr, Lh, h5, h6, h7, -⟩ := id h1
  have hlen := (h6 s hs).2.1
  refine ok_mR hM1 44 <| ok_mA hM1 rfl (by show s < 4; omega) (h6 s hs).1.1 ?_
  refine m_crash_loop (by omega) (h6 s hs).1.2.1 FU 0 _ (by have := (h6 s hs).1.2.1; unfold FU; omega) (by omega) hM1 (fun i l hl => ⟨(h6 s hs).1.2.2 i l hl, ?_⟩) (fun w2 hM2 x2 e2 => ?_)
  · have hi := (List.getElem?_eq_some_iff.mp hl).1
    exact ((h6 s hs).2.2 i l _ hl (List.getElem?_eq_getElem (by omega))).1.1
  · unfold f_X6_crash_67
    obtain ⟨h3, f3⟩ := h1.unheld hs h5 h6 h7 x2 (fun l hl => by have := e2 l hl; rwa [List.drop_zero] at this)
    obtain ⟨h9, f9⟩ := h3.num (k := 3) (j := 1) (v := sc 1 + nI (held s).length) (Or.inr (Or.inl ⟨rfl, rfl⟩))
    refine ok_mR hM2 44 <| ok_mT hM2 rfl (by show s < 4; omega) (fun hM3 => ok_gI hM3.1 h3.1.2.2.2.2.1 <| ok_pI hM3.1 <| ok_ret ⟨by rw [hlen], ?_⟩)
    rw [hlen]
    exact ⟨h9, (f1.tr f3).tr f9⟩
theorem c_crash (h : RC w o S le sc cl mem kept up cn row held) {s : Nat} (hs : s < S) (hu : up s = true) : ok (f_X5_crash o (nI s) w) (fun v w' => v = nI (held s).length ∧ RC w' o S le (va_up sc 1 (sc 1 + nI (held s).length)) cl (fun p b => if p = s then kept s b else mem p b) kept (va_up up s false) (va_up cn s true) row (va_up held s []) ∧ Cf o S w w') := by
  have k0 := h.2.1.1.1
  obtain ⟨⟨ks, -, r1, -, -, u4, u5⟩, -⟩ := h.2.2.1 s hs
  rw [hu] at u4
  obtain ⟨La, hLa, hLl⟩ := h.2.2.2.2.2.2 s hs
  unfold f_X5_crash
  obtain ⟨h1, f1⟩ := h.num (k := 6) (j := 1) (v := sc 1 + nI (held s).length) (Or.inr (Or.inr (Or.inl ⟨rfl, rfl⟩)))
  refine ok_chk k0 <| ok_use (c_sv_in h hs) <| ok_f (by simp) <| ok_gI ks u4 <| ok_f (by decide) <| ok_gR ks r1 <| ok_gI hLa.1 (v := nI (held s).length) (by rw [hLa.2.2.2.2.1, hLl.1]) <| ok_gI k0 h.2.1.2.1.2.2.2.1 <| ok_pI k0 ?_
  obtain ⟨⟨ks, -, r1, -, -, u4, u5⟩, -⟩ := h1.2.2.1 s hs
  obtain ⟨Lb, hLb, -⟩ := h1.2.2.2.2.2.2 s hs
  refine ok_gR ks r1 <| ok_chk hLb.1 <| ok_call (c_clear hs h1) (fun _ w2 z => ?_)
  obtain ⟨h2, f2⟩ := z
  obtain ⟨h3, f3⟩ := h2.mark hs false (cn s) (Or.inl ⟨rfl, rfl⟩)
  have ks2 := (h2.2.2.1 s hs).1.1
  refine ok_pZ ks2 (Or.inl rfl) <| ok_chk (h3.2.2.1 s hs).1.1 <| ok_call (c_restore hs h3) (fun _ w4 z => ok_ret ⟨rfl, ?_⟩)
  obtain ⟨h5, f5⟩ := z
  refine ⟨h5.ext (fun _ _ _ _ => rfl) (fun _ _ _ _ => rfl) (fun _ _ => rfl) (fun p hp => ?_) (fun _ _ => rfl), ((f1.tr f2).tr f3).tr f5⟩
  by_cases e : p = s
  · subst e; rw [va_up_self, va_up_self]
  · rw [va_up_ne _ _ e, va_up_ne _ _ e, va_up_ne _ _ e]
theorem st_crash (x : Int32) : Same2 o S le (f_X5_crash o x) (f_X6_crash (aMo o S) x) := by
  rintro w k hk ⟨sc, cl, mem, kept, up, dy, row, held, hR, hI⟩
  have k0 := hR.1.2.1.1.1
  have m0 := hR.2.1.1.1
  have hM := hR.2.1.1
  have h2 := hR.1.1.1
  have h4 := hR.1.1.2.1
  have out : (x < 0 ∨ nI S ≤ x) → ∃ v w1 w2, f_X5_crash o x w = some (v, w1) ∧ wK w1 (aMo o S) = 7 ∧ f_X6_crash (aMo o S) x w1 = some (v, w2) ∧ Rel w2 o S le (k + 1) := by
    intro hx
    refine mkSame (r := -1) hR hI hk (ok_eq ?_) (ok_eq ?_)
    · unfold f_X5_crash
      exact ok_chk k0 (ok_use (c_sv_out hR.1 hx) (ok_t rfl (ok_ret ⟨rfl, rfl⟩)))
    · unfold f_X6_crash
      exact ok_chk m0 (ok_use (m_sv_out hR.2 h2 h4 hx) (ok_t rfl (ok_ret ⟨rfl, rfl⟩)))
  rcases pk_ix x (n := S) (by omega) with hx | hx | ⟨s, hs, rfl⟩
  · exact out (Or.inl hx)
  · exact out (Or.inr hx)
  · obtain ⟨⟨ks, -, r1, -, -, u4, u5⟩, -⟩ := hR.1.2.2.1 s hs
    have hmu := (hR.2.2.2.1 s hs).1
    cases hu : up s with
    | false =>
      rw [hu] at u4 hmu
      refine mkSame (r := -3) hR hI hk (ok_eq ?_) (ok_eq ?_)
      · unfold f_X5_crash
        exact ok_chk k0 <| ok_use (c_sv_in hR.1 hs) <| ok_f (by simp) <| ok_gI ks u4 <| ok_t (by rfl) <| ok_ret ⟨rfl, rfl⟩
      · unfold f_X6_crash
        exact ok_chk m0 <| ok_use (m_sv_in hR.2 h2 h4 hs) <| ok_f (by decide) <| ok_mR hM 22 <| ok_mA hM rfl (by show s < 4; omega) hmu <| ok_t (by rfl) <| ok_ret ⟨rfl, rfl⟩
    | true =>
      have hI1 : Inv S (k + 1) (va_up sc 1 (sc 1 + nI (held s).length)) cl mem kept (va_up up s false) row (va_up held s []) := by
        refine ((hI.lts hk (fun op a0 a1 a2 a3 a4 => ⟨a3, fun p hp t ht => ?_⟩) (fun p hp => ?_)).sc' (va_up_ne _ _ (by omega))).bks (fun op a0 a1 a2 a3 p b hp hb => ⟨fun hup => ?_, (a2 p b hp hb).2⟩)
        · by_cases e : p = s
          · subst e; rw [va_up_self] at ht; simp at ht
          · rw [va_up_ne _ _ e] at ht; exact a4 p hp t ht
        · by_cases e : p = s
          · subst e; rw [va_up_self]; simp
          · rw [va_up_ne _ _ e]; omega
        · by_cases e : p = s
          · subst e; rw [va_up_self] at hup; cases hup
          · rw [va_up_ne _ _ e] at hup; exact (a2 p b hp hb).1 hup
      refine mkStep hR (ok_mono (c_crash hR.1 hs hu) (fun v w' z => ⟨z.1, z.2.1.ext (fun p b hp hb => ?_) (fun _ _ _ _ => rfl) (fun _ _ => rfl) (fun p hp => ?_) (fun _ _ => rfl), z.2.2⟩)) (fun w1 h1 => m_crash h1 h2 h4 hs hu) hI1
      · by_cases e : p = s
        · subst e
          unfold mxm
          rw [va_up_self]
          simp
        · rw [mxm_ne e]
          simp only [if_neg e]
      · unfold cnf
        by_cases e : p = s
        · subst e; rw [va_up_self, va_up_self]; rfl
        · rw [va_up_ne _ _ e, va_up_ne _ _ e]
end CR
