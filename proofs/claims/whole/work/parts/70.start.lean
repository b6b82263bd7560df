/-! KEEP, RESTORE, START, CRASH -/
section KE
variable {w w' : Wd} {o m S : Nat} {le : Int32} {sc : Nat → Int32} {cl : Nat → ClD} {mem kept mem' kept' : Nat → Nat → BkD} {up cn dy up' cn' : Nat → Bool} {row : List Ltr} {held held' : Nat → List Ltr} {fl : List (Nat × Ltr)}
theorem RC.ext (h : RC w o S le sc cl mem kept up cn row held) (hm : ∀ s b, s < S → b < 8 → mem' s b = mem s b) (hk : ∀ s b, s < S → b < 8 → kept' s b = kept s b) (hu : ∀ s, s < S → up' s = up s) (hc : ∀ s, s < S → cn' s = cn s) (hh : ∀ s, s < S → held' s = held s) : RC w o S le sc cl mem' kept' up' cn' row held' := by
  obtain ⟨h1, h2, h3, h4, h5, h6, h7⟩ := h
  exact ⟨h1, h2, fun s hs => by rw [hu s hs, hc s hs]; exact h3 s hs, h4, fun s b hs hb => by rw [hm s b hs hb, hk s b hs hb]; exact h5 s b hs hb, h6, fun s hs => by rw [hh s hs]; exact h7 s hs⟩
theorem c_keep_loop {s : Nat} (hs : s < S) : ∀ (n j : Nat) (w : Wd) (kept' : Nat → Nat → BkD), 8 < n + j → j ≤ 8 → RC w o S le sc cl mem kept' up cn row held → ok (f_X4_keep_2 n (aSv o s) (nI j) w) (fun _ w' => ∃ kept'', RC w' o S le sc cl mem kept'' up (va_up cn s true) row held ∧ Cf o S w w' ∧ (∀ b, b < 8 → kept'' s b = if j ≤ b then mem s b else kept' s b) ∧ ∀ p b, p ≠ s → kept'' p b = kept' p b) := by
  intro n
  induction n with
  | zero => intro j w k a b; omega
  | succ n ih =>
    intro j w kept' a b h
    obtain ⟨⟨ks, -, -, r2, r3, u4, u5⟩, ⟨k3, n3, e3⟩, ⟨k4, n4, e4⟩⟩ := h.2.2.1 s hs
    rw [f_X4_keep_2.eq_2]
    refine ok_if (fun c => ?_) (fun c => ?_)
    · rw [show (8 : Int32) = nI 8 from rfl, nI_leI (by omega) (by omega)] at c
      obtain ⟨h1, f1⟩ := h.mark hs (up s) true (Or.inr ⟨rfl, rfl⟩)
      refine ok_pZ ks (Or.inr rfl) (ok_ret ⟨kept', h1.ext (fun _ _ _ _ => rfl) (fun _ _ _ _ => rfl) (fun p hp => ?_) (fun _ _ => rfl) (fun _ _ => rfl), f1, fun b hb => by rw [if_neg (by omega)], fun _ _ _ => rfl⟩)
      by_cases e : p = s
      · subst e; rw [va_up_self]
      · rw [va_up_ne _ _ e]
    · rw [show (8 : Int32) = nI 8 from rfl, nI_leI (by omega) (by omega)] at c
      obtain ⟨b1, b2⟩ := h.2.2.2.2.1 s j hs (by omega)
      refine ok_gR ks r3 <| ok_aR rfl k4 (by omega) (by omega) (e4 j (by omega)) <| ok_gR ks r2 <| ok_aR rfl k3 (by omega) (by omega) (e3 j (by omega)) <| ok_chk b2.1.1.1 <| ok_call (bk_copy b2.1 b1 (by unfold aMb aKb; omega)) (fun _ w1 z => ?_)
      obtain ⟨h1, f1⟩ := h.kpt hs (b := j) (by omega) (d := mem s j) z.1 z.2
      rw [nI_1]
      refine ok_mono (ih (j + 1) w1 _ (by omega) (by omega) h1) (fun _ w' z => ?_)
      obtain ⟨k2, z1, z2, z3, z4⟩ := z
      refine ⟨k2, z1, f1.tr z2, fun b hb => ?_, fun p b hp => ?_⟩
      · rw [z3 b hb]
        unfold up2b
        by_cases e : b = j
        · subst e; rw [if_neg (by omega), if_pos ⟨rfl, rfl⟩, if_pos (by omega)]
        · by_cases e2 : j ≤ b
          · rw [if_pos (by omega), if_pos e2]
          · rw [if_neg (by omega), if_neg (by omega), if_neg e2]
      · rw [z4 p b hp]
        unfold up2b
        rw [if_neg (by omega)]
theorem c_keep {s : Nat} (hs : s < S) (h : RC w o S le sc cl mem kept up cn row held) : ok (f_X4_keep (aSv o s) w) (fun _ w' => RC w' o S le sc cl mem (fun p b => if p = s then mem s b else kept p b) up (va_up cn s true) row held ∧ Cf o S w w') := by
  unfold f_X4_keep
  refine ok_mono (c_keep_loop hs FU 0 w kept (by unfold FU; omega) (by omega) h) (fun _ w' z => ?_)
  obtain ⟨k2, z1, z2, z3, z4⟩ := z
  refine ⟨z1.ext (fun _ _ _ _ => rfl) (fun p b hp hb => ?_) (fun _ _ => rfl) (fun _ _ => rfl) (fun _ _ => rfl), z2⟩
  by_cases e : p = s
  · subst e; rw [z3 b hb]; simp
  · rw [z4 p b e, if_neg e]
theorem c_restore_loop {s : Nat} (hs : s < S) : ∀ (n j : Nat) (w : Wd) (mem' : Nat → Nat → BkD), 8 < n + j → j ≤ 8 → RC w o S le sc cl mem' kept up cn row held → ok (f_X4_restore_2 n (aSv o s) (nI j) w) (fun _ w' => ∃ mem'', RC w' o S le sc cl mem'' kept up (va_up cn s true) row held ∧ Cf o S w w' ∧ (∀ b, b < 8 → mem'' s b = if j ≤ b then kept s b else mem' s b) ∧ ∀ p b, p ≠ s → mem'' p b = mem' p b) := by
  intro n
  induction n with
  | zero => intro j w k a b; omega
  | succ n ih =>
    intro j w mem' a b h
    obtain ⟨⟨ks, -, -, r2, r3, u4, u5⟩, ⟨k3, n3, e3⟩, ⟨k4, n4, e4⟩⟩ := h.2.2.1 s hs
    rw [f_X4_restore_2.eq_2]
    refine ok_if (fun c => ?_) (fun c => ?_)
    · rw [show (8 : Int32) = nI 8 from rfl, nI_leI (by omega) (by omega)] at c
      obtain ⟨h1, f1⟩ := h.mark hs (up s) true (Or.inr ⟨rfl, rfl⟩)
      refine ok_pZ ks (Or.inr rfl) (ok_ret ⟨mem', h1.ext (fun _ _ _ _ => rfl) (fun _ _ _ _ => rfl) (fun p hp => ?_) (fun _ _ => rfl) (fun _ _ => rfl), f1, fun b hb => by rw [if_neg (by omega)], fun _ _ _ => rfl⟩)
      by_cases e : p = s
      · subst e; rw [va_up_self]
      · rw [va_up_ne _ _ e]
    · rw [show (8 : Int32) = nI 8 from rfl, nI_leI (by omega) (by omega)] at c
      obtain ⟨b1, b2⟩ := h.2.2.2.2.1 s j hs (by omega)
      refine ok_gR ks r2 <| ok_aR rfl k3 (by omega) (by omega) (e3 j (by omega)) <| ok_gR ks r3 <| ok_aR rfl k4 (by omega) (by omega) (e4 j (by omega)) <| ok_chk b1.1.1.1 <| ok_call (bk_copy b1.1 b2 (by unfold aMb aKb; omega)) (fun _ w1 z => ?_)
      obtain ⟨h1, f1⟩ := h.bkt hs (b := j) (by omega) (d := kept s j) z.1 z.2
      rw [nI_1]
      refine ok_mono (ih (j + 1) w1 _ (by omega) (by omega) h1) (fun _ w' z => ?_)
      obtain ⟨k2, z1, z2, z3, z4⟩ := z
      refine ⟨k2, z1, f1.tr z2, fun b hb => ?_, fun p b hp => ?_⟩
      · rw [z3 b hb]
        unfold up2b
        by_cases e : b = j
        · subst e; rw [if_neg (by omega), if_pos ⟨rfl, rfl⟩, if_pos (by omega)]
        · by_cases e2 : j ≤ b
          · rw [if_pos (by omega), if_pos e2]
          · rw [if_neg (by omega), if_neg (by omega), if_neg e2]
      · rw [z4 p b hp]
        unfold up2b
        rw [if_neg (by omega)]
theorem c_restore {s : Nat} (hs : s < S) (h : RC w o S le sc cl mem kept up cn row held) : ok (f_X4_restore (aSv o s) w) (fun _ w' => RC w' o S le sc cl (fun p b => if p = s then kept s b else mem p b) kept up (va_up cn s true) row held ∧ Cf o S w w') := by
  unfold f_X4_restore
  refine ok_mono (c_restore_loop hs FU 0 w mem (by unfold FU; omega) (by omega) h) (fun _ w' z => ?_)
  obtain ⟨k2, z1, z2, z3, z4⟩ := z
  refine ⟨z1.ext (fun p b hp hb => ?_) (fun _ _ _ _ => rfl) (fun _ _ => rfl) (fun _ _ => rfl) (fun _ _ => rfl), z2⟩
  by_cases e : p = s
  · subst e; rw [z3 b hb]; simp
  · rw [z4 p b e, if_neg e]
theorem c_clear {s : Nat} (hs : s < S) (h : RC w o S le sc cl mem kept up cn row held) : ok (f_X3_clear (aSv o s + 1) w) (fun _ w' => RC w' o S le sc cl mem kept up cn row (va_up held s []) ∧ Cf o S w w') := by
  obtain ⟨Lb, hr, hl⟩ := h.2.2.2.2.2.2 s hs
  obtain ⟨q1, q2, q3, q4, q5, q6, q7, -⟩ := id hr
  unfold f_X3_clear
  refine ok_mono (row_clear (a := aSv o s + 1) q6 q7 FU 0 w (by unfold FU; omega) (by omega) q1 q2 q3 q4 q5) (fun _ w1 z => ?_)
  obtain ⟨z1, z2, z3, z4, z5, z6, z7⟩ := z
  have g : Ag (fun q => ¬ (q = aSv o s + 1 ∨ q = aSv o s + 2) ∧ q < wn w) w w1 := fun q hq => ⟨by rw [z3], by rw [z4], z6 q (by omega), by rw [z5], z7 q (by omega)⟩
  exact h.hd hs z2 (fun a ha => by rw [z2]; exact h.1.2.2.1 a (by rw [← z3]; exact ha)) g z1 ⟨rfl, fun i x t hx => by simp at hx⟩
theorem mxm_ne {s p b : Nat} {v : Bool} (e : p ≠ s) : mxm (va_up up s v) mem kept p b = mxm up mem kept p b := by unfold mxm; rw [va_up_ne _ _ e]
theorem i2 (s : Nat) : (2 : Int32) * nI s = nI (2 * s) := by rw [show (2 : Int32) = nI 2 from rfl, pk_mul]
theorem i21 (s : Nat) : (2 : Int32) * nI s + 1 = nI (2 * s + 1) := by rw [i2, nI_1]
/-- what is known of buckets, anew -/
theorem Inv.bks {k : Nat} (h : Inv S k sc cl mem kept up row held) (hb : ∀ op, op ≤ 600 → (∀ c, c < 6 → (cl c).1 = 0 ∨ Own cl op c (cl c).1) → (∀ s b, s < S → b < 8 → (up s = true → BkOk S cl op (mem s b)) ∧ BkOk S cl op (kept s b)) → (∀ t, t ∈ row → LtOk S cl op t) → ∀ s b, s < S → b < 8 → (up' s = true → BkOk S cl op (mem' s b)) ∧ BkOk S cl op (kept' s b)) : Inv S k sc cl mem' kept' up' row held := by
  obtain ⟨h1, ⟨op, h2, h3, h4, h5, h6, h7⟩, h8, h9⟩ := h
  exact ⟨h1, ⟨op, h2, h3, h4, hb op (by omega) h4 h5 h6, h6, h7⟩, h8, h9⟩
theorem m_start (h : RMF w m S le sc cl mem kept up dy row held fl) (h2 : 2 ≤ S) (h4 : S ≤ 4) {s : Nat} (hs : s < S) (hu : up s = false) : ok (f_X6_start m (nI s) w) (fun v w' => v = 1 ∧ RMF w' m S le sc cl (fun p b => if p = s then kept s b else mem p b) kept (va_up up s true) (va_up dy s false) row held fl ∧ Mf m w w') := by
  have hM := h.1.1
  have hmu := (h.2.2.1 s hs).1
  rw [hu] at hmu
  unfold f_X6_start
  refine ok_chk hM.1 <| ok_use (m_sv_in h h2 h4 hs) <| ok_f (by decide) <| ok_mR hM 22 <| ok_mA hM rfl (by show s < 4; omega) hmu <| ok_t rfl <| ok_mR hM 22 <| ok_mTZ hM rfl (by show s < 4; omega) (Or.inr rfl) (fun hM1 => ok_chk hM1.1 ?_)
  have x1 : Mx m (fun q => q = m + 22) w (sI w (m + 22) s 1) := (Mx.rf (fun q hq => by omega)).sI rfl
  rw [i2, nI_1]
  refine ok_call (m_copy (d := kept s) (p := 2 * s + 1) (q := 2 * s) (by omega) (by omega) (by omega) hM1 (fun b hb => ?_)) (fun _ w2 z => ?_)
  · rw [show 8 * (2 * s + 1) + b = 16 * s + 8 + b by omega]
    exact ((h.2.2.2.1 s b hs hb).2).kp x1 (fun j a b => by omega)
  obtain ⟨hM2, x2, z3, z4⟩ := z
  refine ok_mR hM2 23 <| ok_mTZ hM2 rfl (by show s < 4; omega) (Or.inl rfl) (fun hM3 => ok_ret ⟨rfl, ?_⟩)
  have x3 : Mx m (fun q => q = m + 23) w2 (sI w2 (m + 23) s 0) := (Mx.rf (fun q hq => by omega)).sI rfl
  refine h.re (((x1.mono (fun q hq => by omega) (fun q hq => by omega)).tr (x2.mono (fun q hq => by omega) (fun q hq => by omega))).tr (x3.mono (fun q hq => by omega) (fun q hq => by omega))) (fun p hp => ?_) (fun p b hp hb => ⟨fun hup => ?_, ?_⟩)
  · rw [wI_so (by omega), x2.I (by omega), wI_s, wI_s, x2.I (by omega), wI_so (by omega)]
    obtain ⟨a1, a2⟩ := h.2.2.1 p hp
    by_cases e : p = s
    · subst e; rw [if_pos ⟨rfl, rfl⟩, if_pos ⟨rfl, rfl⟩, va_up_self, va_up_self]; exact ⟨rfl, rfl⟩
    · rw [if_neg (fun z => e z.2), if_neg (fun z => e z.2), va_up_ne _ _ e, va_up_ne _ _ e]; exact ⟨a1, a2⟩
  · refine BKM.kp ?_ x3 (fun j a b => by omega)
    by_cases e : p = s
    · subst e
      rw [if_pos rfl, show 16 * p + b = 8 * (2 * p) + b by omega]
      exact z3 b hb
    · rw [if_neg e]
      rw [va_up_ne _ _ e] at hup
      exact z4 _ _ (by rcases Nat.lt_or_gt_of_ne e with z | z <;> omega) (((h.2.2.2.1 p b hp hb).1 hup).kp x1 (fun j a b => by omega))
  · exact BKM.kp (z4 _ _ (by rcases Nat.lt_trichotomy p s with z | z | z <;> omega) (((h.2.2.2.1 p b hp hb).2).kp x1 (fun j a b => by omega))) x3 (fun j a b => by omega)
theorem st_start (x : Int32) : Same2 o S le (f_X5_start o x) (f_X6_start (aMo o S) x) := by
  rintro w k hk ⟨sc, cl, mem, kept, up, dy, row, held, hR, hI⟩
  have k0 := hR.1.2.1.1.1
  have m0 := hR.2.1.1.1
  have hM := hR.2.1.1
  have h2 := hR.1.1.1
  have h4 := hR.1.1.2.1
  have out : (x < 0 ∨ nI S ≤ x) → ∃ v w1 w2, f_X5_start o x w = some (v, w1) ∧ wK w1 (aMo o S) = 7 ∧ f_X6_start (aMo o S) x w1 = some (v, w2) ∧ Rel w2 o S le (k + 1) := by
    intro hx
    refine mkSame (r := -1) hR hI hk (ok_eq ?_) (ok_eq ?_)
    · unfold f_X5_start
      exact ok_chk k0 (ok_use (c_sv_out hR.1 hx) (ok_t rfl (ok_ret ⟨rfl, rfl⟩)))
    · unfold f_X6_start
      exact ok_chk m0 (ok_use (m_sv_out hR.2 h2 h4 hx) (ok_t rfl (ok_ret ⟨rfl, rfl⟩)))
  rcases pk_ix x (n := S) (by omega) with hx | hx | ⟨s, hs, rfl⟩
  · exact out (Or.inl hx)
  · exact out (Or.inr hx)
  · obtain ⟨⟨ks, -, r1, -, -, u4, u5⟩, -⟩ := hR.1.2.2.1 s hs
    have hmu := (hR.2.2.2.1 s hs).1
    cases hu : up s with
    | true =>
      rw [hu] at u4 hmu
      refine mkSame (r := -3) hR hI hk (ok_eq ?_) (ok_eq ?_)
      · unfold f_X5_start
        exact ok_chk k0 <| ok_use (c_sv_in hR.1 hs) <| ok_f (by simp) <| ok_gI ks u4 <| ok_f (by decide) <| ok_ret ⟨rfl, rfl⟩
      · unfold f_X6_start
        exact ok_chk m0 <| ok_use (m_sv_in hR.2 h2 h4 hs) <| ok_f (by decide) <| ok_mR hM 22 <| ok_mA hM rfl (by show s < 4; omega) hmu <| ok_f (by decide) <| ok_ret ⟨rfl, rfl⟩
    | false =>
      rw [hu] at u4
      refine mkStep (r := 1) (sc' := sc) (cl' := cl) (mem' := fun p b => if p = s then kept s b else mem p b) (kept' := kept) (up' := va_up up s true) (dy' := va_up dy s false) (row' := row) (held' := held) hR ?_ (fun w1 h1 => m_start h1 h2 h4 hs hu) ((hI.up hk).bks (fun op a0 a1 a2 a3 p b hp hb => ⟨fun hup => ?_, (a2 p b hp hb).2⟩))
      · unfold f_X5_start
        obtain ⟨h1, f1⟩ := hR.1.mark hs true (cnf up dy s) (Or.inl ⟨rfl, rfl⟩)
        refine ok_chk k0 <| ok_use (c_sv_in hR.1 hs) <| ok_f (by simp) <| ok_gI ks u4 <| ok_t (by rfl) <| ok_pZ ks (Or.inr rfl) <| ok_ret ⟨rfl, h1.ext (fun p b hp hb => ?_) (fun _ _ _ _ => rfl) (fun _ _ => rfl) (fun p hp => ?_) (fun _ _ => rfl), f1⟩
        · by_cases e : p = s
          · subst e
            unfold mxm
            rw [va_up_self, hu]
            simp
          · rw [mxm_ne e]
            unfold mxm
            simp only [if_neg e]
        · unfold cnf
          by_cases e : p = s
          · subst e; rw [va_up_self, va_up_self, va_up_self, hu]; rfl
          · rw [va_up_ne _ _ e, va_up_ne _ _ e, va_up_ne _ _ e]
      · by_cases e : p = s
        · subst e; simp; exact (a2 p b hp hb).2
        · rw [va_up_ne _ _ e] at hup
          simp only [if_neg e]
          exact (a2 p b hp hb).1 hup
end KE
