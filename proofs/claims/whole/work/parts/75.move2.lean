/-! MOVE, II -/
section MW
variable {w w' : Wd} {o m S : Nat} {le : Int32} {sc : Nat → Int32} {cl : Nat → ClD} {mem kept : Nat → Nat → BkD} {up cn dy : Nat → Bool} {row : List Ltr} {held : Nat → List Ltr} {fl : List (Nat × Ltr)}
theorem up2b_self {f : Nat → Nat → BkD} {s b : Nat} {d : BkD} : up2b f s b d s b = d := by unfold up2b; rw [if_pos ⟨rfl, rfl⟩]
theorem up2b_ne {f : Nat → Nat → BkD} {s b p q : Nat} {d : BkD} (h : ¬ (p = s ∧ q = b)) : up2b f s b d p q = f p q := by unfold up2b; rw [if_neg h]
theorem mxm_bk {s b : Nat} {d : BkD} (hu : up s = true) (p q : Nat) : mxm up (up2b mem s b d) kept p q = up2b (mxm up mem kept) s b d p q := by
  unfold mxm up2b
  by_cases e : p = s ∧ q = b
  · obtain ⟨rfl, rfl⟩ := e
    rw [hu]; simp
  · rw [if_neg e, if_neg e]
theorem cnf_dirty {s : Nat} (hu : up s = true) (p : Nat) : cnf up (va_up dy s true) p = va_up (cnf up dy) s false p := by
  unfold cnf
  by_cases e : p = s
  · subst e; rw [va_up_self, va_up_self, hu]; rfl
  · rw [va_up_ne _ _ e, va_up_ne _ _ e]
theorem RMF.dirty (h : RMF w m S le sc cl mem kept up dy row held fl) {s : Nat} (hs : s < S) : RMF (sI w (m + 23) s 1) m S le sc cl mem kept up (va_up dy s true) row held fl ∧ Mf m w (sI w (m + 23) s 1) := by
  have x1 : Mx m (fun q => q = m + 23) w (sI w (m + 23) s 1) := (Mx.rf (fun q hq => by omega)).sI rfl
  refine h.re (x1.mono (fun q hq => by omega) (fun q hq => by omega)) (fun p hp => ?_) (fun p b hp hb => ⟨fun hup => ((h.2.2.2.1 p b hp hb).1 hup).kp x1 (fun j a b => by omega), ((h.2.2.2.1 p b hp hb).2).kp x1 (fun j a b => by omega)⟩)
  have e22 : wI (sI w (m + 23) s 1) (m + 22) p = wI w (m + 22) p := by rw [wI_so (by omega)]
  rw [e22, wI_s]
  obtain ⟨a1, a2⟩ := h.2.2.1 p hp
  by_cases e : p = s
  · subst e; rw [if_pos ⟨rfl, rfl⟩, va_up_self]; exact ⟨a1, rfl⟩
  · rw [if_neg (fun z => e z.2), va_up_ne _ _ e]; exact ⟨a1, a2⟩
theorem RMF.bk (h : RMF w m S le sc cl mem kept up dy row held fl) {s b : Nat} (hs : s < S) (hb : b < 8) {d : BkD} (g : BkF m (16 * s + b) w w') (hB : BKM w' m (16 * s + b) d) : RMF w' m S le sc cl (up2b mem s b d) kept up dy row held fl ∧ Mf m w w' := by
  refine h.re (g.1.mono (fun q hq => by omega) (fun q hq => by omega)) (fun p hp => ?_) (fun p q hp hq => ⟨fun hup => ?_, ?_⟩)
  · rw [g.1.I (by omega), g.1.I (by omega)]; exact h.2.2.1 p hp
  · by_cases e : p = s ∧ q = b
    · obtain ⟨rfl, rfl⟩ := e
      rw [up2b_self]; exact hB
    · rw [up2b_ne e]
      exact ((h.2.2.2.1 p q hp hq).1 hup).fr g (by rcases Nat.lt_trichotomy p s with z | z | z <;> omega)
  · exact ((h.2.2.2.1 p q hp hq).2).fr g (by rcases Nat.lt_trichotomy p s with z | z | z <;> omega)
/-- leaving for t -/
def lv (d : BkD) (t : Nat) : BkD := (2, d.2.1, nI t, d.2.2.2)
theorem move_ok {op s b t : Nat} {d : BkD} (hs : s < S) (ht : t < S) (hb : b < 8) (h : BkOk S cl op d) : LtOk S cl op (mkMove t s b d) := Or.inr (Or.inr (Or.inl ⟨rfl, t, s, b, ht, hs, hb, rfl, rfl, rfl, rfl, h.2.2⟩))
theorem c_moveA (h : RC w o S le sc cl mem kept up cn row held) {s b t : Nat} (hs : s < S) (ht : t < S) (hb : b < 8) (hh : (held s).length < 512) (hu : up s = true) (hne : t ≠ s) (hst : (mem s b).1 = 1) : ok (f_X5_move o (nI s) (nI b) (nI t) w) (fun v w' => v = (mem s b).2.1 + 1 ∧ RC w' o S le (sfL true sc row) cl (up2b mem s b (lv (mem s b) t)) kept up (va_up cn s false) (sfR true row (mkMove t s b (lv (mem s b) t))) (sfH true held s (mkMove t s b (lv (mem s b) t))) ∧ Cf o S w w') := by
  have k0 := h.2.1.1.1
  have h4 := h.1.2.1
  obtain ⟨⟨ks, -, r1, -, -, u4, u5⟩, -⟩ := h.2.2.1 s hs
  rw [hu] at u4
  have hB := (h.2.2.2.2.1 s b hs hb).1
  unfold f_X5_move
  refine ok_chk k0 <| ok_use (c_sv_in h hs) <| ok_f (by simp) <| ok_chk k0 <| ok_use (c_sv_in h ht) <| ok_f (by simp) <| ok_chk ks <| ok_use (c_bk_in h hs hb) <| ok_f (by simp) <| ok_gI ks u4 <| ok_f (by decide) <| ok_f ?_ <| ok_chk hB.1.1.1 <| ok_use (bk_leave hB (nI t)) ?_
  · rw [nI_eq (by omega) (by omega)]; exact hne
  rw [if_pos (Or.inl hst)]
  have hf : Bf (aMb o s b) w (sI (sI w (aMb o s b) 0 2) (aMb o s b) 2 (nI t)) := (Bf.sI (Nat.le_refl _) (by omega)).tr (Bf.sI (Nat.le_refl _) (by omega))
  obtain ⟨q0, q1, q2, q3, q4, q5, q6, q7, q8, q9⟩ := id hB
  have hB2 : BKd (sI (sI w (aMb o s b) 0 2) (aMb o s b) 2 (nI t)) (aMb o s b) (lv (mem s b) t) := ⟨q0.f hf, by simp [wI_s, lv], by simp [wI_s, lv]; exact q2, by simp [wI_s, lv], by simp [wI_s, lv]; exact q4, q5, q6, fun i r hi => by rw [← q7 i r hi]; simp [recAt, wI_s, (wsI _ _ _ _).2.2.2.1], fun c hc => by simp [wI_s]; exact q8 c hc, fun c hc => by simp [wI_s]; exact q9 c hc⟩
  refine ok_f (by decide) <| ok_gI hB.1.1.1 q1 <| ok_t hst <| ok_pI hB.1.1.1 <| ok_pI hB.1.1.1 ?_
  obtain ⟨h1, f1⟩ := h.bkt hs hb hf hB2
  have ks1 := (h1.2.2.1 s hs).1.1
  refine ok_pZ ks1 (Or.inl rfl) ?_
  obtain ⟨h2, f2⟩ := h1.mark hs (up s) false (Or.inr ⟨rfl, rfl⟩)
  have h3 := h2.ext (up' := up) (fun _ _ _ _ => rfl) (fun _ _ _ _ => rfl) (fun p hp => by
    by_cases e : p = s
    · subst e; rw [va_up_self]
    · rw [va_up_ne _ _ e]) (fun _ _ => rfl) (fun _ _ => rfl)
  have h9 := c_move89 (t := t) h3 hs hb hh
  rw [va_up_self, up2b_self] at h9
  exact ok_mono h9 (fun v w' z => ⟨z.1, z.2.1, (f1.tr f2).tr z.2.2⟩)
theorem c_moveB (h : RC w o S le sc cl mem kept up cn row held) {s b t : Nat} (hs : s < S) (ht : t < S) (hb : b < 8) (hh : (held s).length < 512) (hu : up s = true) (hne : t ≠ s) (hst : (mem s b).1 = 2) (hhi : (mem s b).2.2.1 = nI t) : ok (f_X5_move o (nI s) (nI b) (nI t) w) (fun v w' => v = (mem s b).2.1 + 1 ∧ RC w' o S le (sfL (!cn s) sc row) cl mem kept up cn (sfR (!cn s) row (mkMove t s b (mem s b))) (sfH (!cn s) held s (mkMove t s b (mem s b))) ∧ Cf o S w w') := by
  have k0 := h.2.1.1.1
  have h4 := h.1.2.1
  obtain ⟨⟨ks, -, r1, -, -, u4, u5⟩, -⟩ := h.2.2.1 s hs
  rw [hu] at u4
  have hB := (h.2.2.2.2.1 s b hs hb).1
  unfold f_X5_move
  refine ok_chk k0 <| ok_use (c_sv_in h hs) <| ok_f (by simp) <| ok_chk k0 <| ok_use (c_sv_in h ht) <| ok_f (by simp) <| ok_chk ks <| ok_use (c_bk_in h hs hb) <| ok_f (by simp) <| ok_gI ks u4 <| ok_f (by decide) <| ok_f ?_ <| ok_chk hB.1.1.1 <| ok_use (bk_leave hB (nI t)) ?_
  · rw [nI_eq (by omega) (by omega)]; exact hne
  rw [if_pos (Or.inr ⟨hst, hhi⟩)]
  exact ok_f (by decide) <| ok_gI hB.1.1.1 hB.2.1 <| ok_f (by rw [hst]; decide) <| c_move89 h hs hb hh
theorem m_moveA (h : RMF w m S le sc cl mem kept up dy row held fl) (h2 : 2 ≤ S) (h4 : S ≤ 4) (hfl : fl.length ≤ 600) {s b t : Nat} (hs : s < S) (ht : t < S) (hb : b < 8) (hu : up s = true) (hh : (held s).length < 600) (hne : t ≠ s) (hst : (mem s b).1 = 1) : ok (f_X6_move m (nI s) (nI b) (nI t) w) (fun v w' => v = (mem s b).2.1 + 1 ∧ RMF w' m S le (sfL true sc row) cl (up2b mem s b (lv (mem s b) t)) kept up (va_up dy s true) (sfR true row (mkMove t s b (lv (mem s b) t))) (sfH true held s (mkMove t s b (lv (mem s b) t))) fl ∧ Mf m w w') := by
  have hM := h.1.1
  have hat : 16 * s + b < 64 := by omega
  have hB := (h.2.2.2.1 s b hs hb).1 hu
  have hmu := (h.2.2.1 s hs).1
  rw [hu] at hmu
  have e1 : wI w (m + 11) (16 * s + b) = 1 := hB.1.trans hst
  unfold f_X6_move
  refine ok_chk hM.1 <| ok_use (m_sv_in h h2 h4 hs) <| ok_f (by decide) <| ok_use m_in ?_
  rw [if_pos (in8 hb)]
  refine ok_f (by decide) <| ok_chk hM.1 <| ok_use (m_sv_in h h2 h4 ht) <| ok_f (by decide) <| ok_mR hM 22 <| ok_mA hM rfl (by show s < 4; omega) hmu <| ok_f (by decide) <| ok_mR hM 11 <| ok_mA hM (i16 s b) hat e1 <| ok_f (by decide) <| ok_mR hM 11 <| ok_mA hM (i16 s b) hat e1 <| ok_f (by decide) ?_
  rw [i16 s b]
  unfold f_X6_move_77
  refine ok_f ?_ <| ok_mR hM 11 <| ok_mA hM rfl hat e1 <| ok_t rfl <| ok_mR hM 11 <| ok_mT hM rfl hat (fun hM1 => ok_mR hM1 13 <| ok_mT hM1 rfl hat (fun hM2 => ok_mR hM2 23 <| ok_mTZ hM2 rfl (by show s < 4; omega) (Or.inr rfl) (fun hM3 => ?_)))
  · rw [nI_eq (by omega) (by omega)]; exact hne
  have g : BkF m (16 * s + b) w (sI (sI w (m + 11) (16 * s + b) 2) (m + 13) (16 * s + b) (nI t)) := (BkF.rf.sI (by omega)).sI (by omega)
  obtain ⟨s1, s2, s3, s4, s5, s6, s7, s8, s9⟩ := id hB
  obtain ⟨h1, f1⟩ := h.bk hs hb (d := lv (mem s b) t) g ⟨by simp [wI_s, lv], by simp [wI_s, lv]; exact s2, by simp [wI_s, lv], by simp [wI_s, lv]; exact s4, s5, s6, fun i r hi => by rw [← s7 i r hi]; simp [recM, wI_s, (wsI _ _ _ _).2.2.2.1], fun c hc => by simp [wI_s]; exact s8 c hc, fun c hc => by simp [wI_s]; exact s9 c hc⟩
  obtain ⟨h5, f5⟩ := h1.dirty hs
  have h9 := m_move119 (t := t) h5 h4 hfl hs hb hu hh
  rw [va_up_self, up2b_self] at h9
  exact ok_mono h9 (fun v w' z => ⟨z.1, z.2.1, (f1.tr f5).tr z.2.2⟩)
theorem m_moveB (h : RMF w m S le sc cl mem kept up dy row held fl) (h2 : 2 ≤ S) (h4 : S ≤ 4) (hfl : fl.length ≤ 600) {s b t : Nat} (hs : s < S) (ht : t < S) (hb : b < 8) (hu : up s = true) (hh : (held s).length < 600) (hne : t ≠ s) (hst : (mem s b).1 = 2) (hhi : (mem s b).2.2.1 = nI t) : ok (f_X6_move m (nI s) (nI b) (nI t) w) (fun v w' => v = (mem s b).2.1 + 1 ∧ RMF w' m S le (sfL (dy s) sc row) cl mem kept up dy (sfR (dy s) row (mkMove t s b (mem s b))) (sfH (dy s) held s (mkMove t s b (mem s b))) fl ∧ Mf m w w') := by
  have hM := h.1.1
  have hat : 16 * s + b < 64 := by omega
  have hB := (h.2.2.2.1 s b hs hb).1 hu
  have hmu := (h.2.2.1 s hs).1
  rw [hu] at hmu
  have e1 : wI w (m + 11) (16 * s + b) = 2 := hB.1.trans hst
  unfold f_X6_move
  refine ok_chk hM.1 <| ok_use (m_sv_in h h2 h4 hs) <| ok_f (by decide) <| ok_use m_in ?_
  rw [if_pos (in8 hb)]
  refine ok_f (by decide) <| ok_chk hM.1 <| ok_use (m_sv_in h h2 h4 ht) <| ok_f (by decide) <| ok_mR hM 22 <| ok_mA hM rfl (by show s < 4; omega) hmu <| ok_f (by decide) <| ok_mR hM 11 <| ok_mA hM (i16 s b) hat e1 <| ok_f (by decide) <| ok_mR hM 11 <| ok_mA hM (i16 s b) hat e1 <| ok_t rfl <| ok_mR hM 13 <| ok_mA hM (i16 s b) hat (hB.2.2.1.trans hhi) <| ok_t rfl ?_
  rw [i16 s b]
  unfold f_X6_move_77
  refine ok_f ?_ <| ok_mR hM 11 <| ok_mA hM rfl hat e1 <| ok_f (by decide) <| m_move119 h h4 hfl hs hb hu hh
  rw [nI_eq (by omega) (by omega)]; exact hne
theorem c_move_no (h : RC w o S le sc cl mem kept up cn row held) {s b t : Nat} (hs : s < S) (ht : t < S) (hb : b < 8) (hno : up s = false ∨ t = s ∨ ¬ ((mem s b).1 = 1 ∨ ((mem s b).1 = 2 ∧ (mem s b).2.2.1 = nI t))) : f_X5_move o (nI s) (nI b) (nI t) w = some (-3, w) := by
  have k0 := h.2.1.1.1
  have h4 := h.1.2.1
  obtain ⟨⟨ks, -, r1, -, -, u4, u5⟩, -⟩ := h.2.2.1 s hs
  have hB := (h.2.2.2.2.1 s b hs hb).1
  refine ok_eq ?_
  unfold f_X5_move
  refine ok_chk k0 <| ok_use (c_sv_in h hs) <| ok_f (by simp) <| ok_chk k0 <| ok_use (c_sv_in h ht) <| ok_f (by simp) <| ok_chk ks <| ok_use (c_bk_in h hs hb) <| ok_f (by simp) <| ok_gI ks u4 <| ok_if (fun _ => ok_ret ⟨rfl, rfl⟩) (fun c1 => ok_if (fun _ => ok_ret ⟨rfl, rfl⟩) (fun c2 => ok_chk hB.1.1.1 <| ok_use (bk_leave hB (nI t)) ?_))
  rcases hno with z | z | z
  · rw [z] at c1; exact absurd rfl c1
  · rw [z] at c2; exact absurd rfl c2
  · rw [if_neg z]; exact ok_t rfl (ok_ret ⟨rfl, rfl⟩)
theorem m_move_no (h : RMF w m S le sc cl mem kept up dy row held fl) (h2 : 2 ≤ S) (h4 : S ≤ 4) {s b t : Nat} (hs : s < S) (ht : t < S) (hb : b < 8) (hst : up s = true → (mem s b).1 = 0 ∨ (mem s b).1 = 1 ∨ (mem s b).1 = 2) (hno : up s = false ∨ t = s ∨ ¬ ((mem s b).1 = 1 ∨ ((mem s b).1 = 2 ∧ (mem s b).2.2.1 = nI t))) : f_X6_move m (nI s) (nI b) (nI t) w = some (-3, w) := by
  have hM := h.1.1
  have hat : 16 * s + b < 64 := by omega
  have hmu := (h.2.2.1 s hs).1
  refine ok_eq ?_
  unfold f_X6_move
  refine ok_chk hM.1 <| ok_use (m_sv_in h h2 h4 hs) <| ok_f (by decide) <| ok_use m_in ?_
  rw [if_pos (in8 hb)]
  refine ok_f (by decide) <| ok_chk hM.1 <| ok_use (m_sv_in h h2 h4 ht) <| ok_f (by decide) <| ok_mR hM 22 <| ok_mA hM rfl (by show s < 4; omega) hmu <| ok_if (fun _ => ok_ret ⟨rfl, rfl⟩) (fun c1 => ?_)
  have hu := bI_1 c1
  have hB := (h.2.2.2.1 s b hs hb).1 hu
  have q77 : t = s ∨ ¬ ((mem s b).1 = 1 ∨ ((mem s b).1 = 2 ∧ (mem s b).2.2.1 = nI t)) := by
    rcases hno with z | z
    · rw [z] at hu; cases hu
    · exact z
  refine ok_mR hM 11 <| ok_mA hM (i16 s b) hat hB.1 <| ok_if (fun _ => ok_ret ⟨rfl, rfl⟩) (fun c2 => ok_mR hM 11 <| ok_mA hM (i16 s b) hat hB.1 <| ok_if (fun c3 => ok_mR hM 13 <| ok_mA hM (i16 s b) hat hB.2.2.1 <| ok_if (fun c4 => ?_) (fun _ => ok_ret ⟨rfl, rfl⟩)) (fun c3 => ?_))
  · unfold f_X6_move_77
    refine ok_t ?_ (ok_ret ⟨rfl, rfl⟩)
    rcases q77 with z | z
    · rw [z]
    · exact absurd (Or.inr ⟨c3, c4⟩) z
  · unfold f_X6_move_77
    refine ok_t ?_ (ok_ret ⟨rfl, rfl⟩)
    rcases q77 with z | z
    · rw [z]
    · rcases hst hu with y | y | y
      · exact absurd y c2
      · exact absurd (Or.inl y) z
      · exact absurd y c3
theorem st_move (x y z : Int32) : Same2 o S le (f_X5_move o x y z) (f_X6_move (aMo o S) x y z) := by
  rintro w k hk ⟨sc, cl, mem, kept, up, dy, row, held, hR, hI⟩
  have k0 := hR.1.2.1.1.1
  have m0 := hR.2.1.1.1
  have hM := hR.2.1.1
  have h2 := hR.1.1.1
  have h4 := hR.1.1.2.1
  have out : (x < 0 ∨ nI S ≤ x) → ∃ v w1 w2, f_X5_move o x y z w = some (v, w1) ∧ wK w1 (aMo o S) = 7 ∧ f_X6_move (aMo o S) x y z w1 = some (v, w2) ∧ Rel w2 o S le (k + 1) := by
    intro hx
    refine mkSame (r := -1) hR hI hk (ok_eq ?_) (ok_eq ?_)
    · unfold f_X5_move
      exact ok_chk k0 (ok_use (c_sv_out hR.1 hx) (ok_t rfl (ok_ret ⟨rfl, rfl⟩)))
    · unfold f_X6_move
      exact ok_chk m0 (ok_use (m_sv_out hR.2 h2 h4 hx) (ok_t rfl (ok_ret ⟨rfl, rfl⟩)))
  rcases pk_ix x (n := S) (by omega) with hx | hx | ⟨s, hs, rfl⟩
  · exact out (Or.inl hx)
  · exact out (Or.inr hx)
  have ks := (hR.1.2.2.1 s hs).1.1
  have out2 : (z < 0 ∨ nI S ≤ z) → ∃ v w1 w2, f_X5_move o (nI s) y z w = some (v, w1) ∧ wK w1 (aMo o S) = 7 ∧ f_X6_move (aMo o S) (nI s) y z w1 = some (v, w2) ∧ Rel w2 o S le (k + 1) := by
    intro hz
    refine mkSame (r := -1) hR hI hk (ok_eq ?_) (ok_eq ?_)
    · unfold f_X5_move
      exact ok_chk k0 <| ok_use (c_sv_in hR.1 hs) <| ok_f (by simp) <| ok_chk k0 <| ok_use (c_sv_out hR.1 hz) <| ok_t rfl <| ok_ret ⟨rfl, rfl⟩
    · unfold f_X6_move
      refine ok_chk m0 <| ok_use (m_sv_in hR.2 h2 h4 hs) <| ok_f (by decide) <| ok_use m_in ?_
      by_cases c : 0 ≤ y ∧ y ≤ 7
      · rw [if_pos c]
        exact ok_f (by decide) <| ok_chk m0 <| ok_use (m_sv_out hR.2 h2 h4 hz) <| ok_t rfl <| ok_ret ⟨rfl, rfl⟩
      · rw [if_neg c]
        exact ok_t rfl <| ok_ret ⟨rfl, rfl⟩
  rcases pk_ix z (n := S) (by omega) with hz | hz | ⟨t, ht, rfl⟩
  · exact out2 (Or.inl hz)
  · exact out2 (Or.inr hz)
  have out3 : (y < 0 ∨ nI 8 ≤ y) → ∃ v w1 w2, f_X5_move o (nI s) y (nI t) w = some (v, w1) ∧ wK w1 (aMo o S) = 7 ∧ f_X6_move (aMo o S) (nI s) y (nI t) w1 = some (v, w2) ∧ Rel w2 o S le (k + 1) := by
    intro hy
    refine mkSame (r := -1) hR hI hk (ok_eq ?_) (ok_eq ?_)
    · unfold f_X5_move
      exact ok_chk k0 <| ok_use (c_sv_in hR.1 hs) <| ok_f (by simp) <| ok_chk k0 <| ok_use (c_sv_in hR.1 ht) <| ok_f (by simp) <| ok_chk ks <| ok_use (c_bk_out hy) <| ok_t rfl <| ok_ret ⟨rfl, rfl⟩
    · unfold f_X6_move
      refine ok_chk m0 <| ok_use (m_sv_in hR.2 h2 h4 hs) <| ok_f (by decide) <| ok_use m_in ?_
      rw [if_neg (out8 hy)]
      exact ok_t rfl <| ok_ret ⟨rfl, rfl⟩
  rcases pk_ix y (n := 8) (by omega) with hy | hy | ⟨b, hb, rfl⟩
  · exact out3 (Or.inl hy)
  · exact out3 (Or.inr hy)
  obtain ⟨op, -, -, -, hbk, -, -⟩ := id hI.2.1
  have hlen := hI.2.2.2 s hs
  have emx : up s = true → mxm up mem kept s b = mem s b := fun hu => by unfold mxm; rw [hu]; rfl
  by_cases hno : up s = false ∨ t = s ∨ ¬ ((mem s b).1 = 1 ∨ ((mem s b).1 = 2 ∧ (mem s b).2.2.1 = nI t))
  · refine mkSame (r := -3) hR hI hk (c_move_no hR.1 hs ht hb ?_) (m_move_no hR.2 h2 h4 hs ht hb (fun hu => ((hbk s b hs hb).1 hu).1) hno)
    cases hu : up s with
    | false => exact Or.inl rfl
    | true =>
      rw [emx hu]
      rcases hno with z | z
      · rw [z] at hu; cases hu
      · exact Or.inr z
  · have hu : up s = true := by
      cases e : up s with
      | true => rfl
      | false => exact absurd (Or.inl e) hno
    have hts : t ≠ s := fun e => hno (Or.inr (Or.inl e))
    have hcan : (mem s b).1 = 1 ∨ ((mem s b).1 = 2 ∧ (mem s b).2.2.1 = nI t) := Classical.byContradiction (fun e => hno (Or.inr (Or.inr e)))
    have em := emx hu
    rcases hcan with hst | ⟨hst, hhi⟩
    · have hC := c_moveA (t := t) hR.1 hs ht hb (by omega) hu hts (by rw [em]; exact hst)
      rw [em] at hC
      have hI1 := hI.bks (mem' := up2b mem s b (lv (mem s b) t)) (kept' := kept) (up' := up) (fun op a0 a1 a2 a3 p q hp hq => ⟨fun hup => ?_, (a2 p q hp hq).2⟩)
      · refine mkStep hR (ok_mono hC (fun v w' z => ⟨z.1, z.2.1.ext (fun p q hp hq => mxm_bk hu p q) (fun _ _ _ _ => rfl) (fun _ _ => rfl) (fun p hp => cnf_dirty hu p) (fun _ _ => rfl), z.2.2⟩)) (fun w1 h1 => m_moveA h1 h2 h4 (by simp) hs ht hb hu (by omega) hts hst) (hI1.send hk (fun op a0 a1 a2 a3 => move_ok hs ht hb ?_))
        have := (a2 s b hs hb).1 hu
        rwa [up2b_self] at this
      · by_cases e : p = s ∧ q = b
        · obtain ⟨rfl, rfl⟩ := e
          rw [up2b_self]
          have := (a2 p q hp hq).1 hup
          exact ⟨Or.inr (Or.inr rfl), ⟨t, ht, rfl⟩, this.2.2⟩
        · rw [up2b_ne e]; exact (a2 p q hp hq).1 hup
    · have hC := c_moveB (t := t) hR.1 hs ht hb (by omega) hu hts (by rw [em]; exact hst) (by rw [em]; exact hhi)
      have ecn : (!cnf up dy s) = dy s := by unfold cnf; rw [hu]; cases dy s <;> rfl
      rw [em, ecn] at hC
      exact mkStep hR hC (fun w1 h1 => m_moveB h1 h2 h4 (by simp) hs ht hb hu (by omega) hts hst hhi) (hI.send hk (fun op a0 a1 a2 a3 => move_ok hs ht hb ((a2 s b hs hb).1 hu)))
end MW
