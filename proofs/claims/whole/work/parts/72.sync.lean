/-! SYNC -/
section SY
variable {w w' : Wd} {o m S : Nat} {le : Int32} {sc : Nat → Int32} {cl : Nat → ClD} {mem kept : Nat → Nat → BkD} {up cn dy : Nat → Bool} {row : List Ltr} {held : Nat → List Ltr} {fl : List (Nat × Ltr)}
/-- all these letters go, one by one -/
def goAll : List Ltr → (Nat → Int32) → List Ltr → (Nat → Int32) × List Ltr
  | [], sc, row => (sc, row)
  | t :: ts, sc, row => goAll ts (goL sc row) (goR row t)
theorem goAll_mem : ∀ (ts : List Ltr) (sc : Nat → Int32) (row : List Ltr) (t : Ltr), t ∈ (goAll ts sc row).2 → t ∈ row ∨ t ∈ ts := by
  intro ts
  induction ts with
  | nil => intro sc row t h; exact Or.inl h
  | cons a ts ih =>
    intro sc row t h
    rcases ih _ _ t h with z | z
    · rcases goR_mem z with z | z
      · exact Or.inl z
      · exact Or.inr (z ▸ List.mem_cons_self ..)
    · exact Or.inr (List.mem_cons_of_mem _ z)
theorem goAll_4 : ∀ (ts : List Ltr) (sc : Nat → Int32) (row : List Ltr), (goAll ts sc row).1 4 = sc 4 := by
  intro ts
  induction ts with
  | nil => intro sc row; rfl
  | cons a ts ih => intro sc row; exact (ih _ _).trans goL4
/-- the letters that server s held are in hand -/
theorem RMF.inHand (h : RMF w m S le sc cl mem kept up dy row held []) {s : Nat} (hs : s < S) : ∃ F : List (Nat × Ltr), F.map Prod.snd = held s ∧ (∀ (p : Nat) (e : Nat × Ltr), F[p]? = some e → wI w (m + 43) (4200 * s + p) = nI e.1) ∧ RMF (sI w (m + 44) s 0) m S le sc cl mem kept up dy row (va_up held s []) F ∧ Mf m w (sI w (m + 44) s 0) := by
  have g : Mx m (fun q => q = m + 44) w (sI w (m + 44) s 0) := (Mx.rf (fun q hq => by omega)).sI rfl
  have e44 : ∀ i, wI (sI w (m + 44) s 0) (m + 44) i = if i = s then 0 else wI w (m + 44) i := fun i => by rw [wI_s]; simp
  generalize sI w (m + 44) s 0 = w3 at *
  obtain ⟨p0, p1, p2, p3, p4, p5⟩ := h.pieces g
  obtain ⟨h1, -, -, -, Lr, Lh, h5, h6, h7, -⟩ := h
  have hX : ∀ j, 24 ≤ j → j ≤ 41 → ¬ (m + j = m + 44) := fun j a b => by omega
  have hlen := (h6 s hs).2.1
  have z1 : ((Lh s).zip (held s)).map Prod.fst = Lh s := List.map_fst_zip (by omega)
  have z2 : ((Lh s).zip (held s)).map Prod.snd = held s := List.map_snd_zip (by omega)
  refine ⟨(Lh s).zip (held s), z2, fun p e he => (h6 s hs).1.2.2 p e.1 (List.getElem?_zip_eq_some.mp he).1, ⟨p1 (by omega), p2 (fun j a b => by omega), p3 (by omega) (by omega), p4 (fun j a b => by omega), Lr, va_up Lh s [], ⟨?_, h5.2.kp g hX⟩, fun p hp => ?_, fun x hx => ?_, fun l t hlt => ?_⟩, g.mf⟩
  · have := h5.1
    unfold RMr at this ⊢
    rw [g.I (by omega), g.I (by omega)]; exact this
  · by_cases e : p = s
    · subst e
      rw [va_up_self, va_up_self]
      exact ⟨⟨by rw [e44, if_pos rfl]; exact nI_0.symm, by simp, fun i l hl => by simp at hl⟩, rfl, fun i l t hl => by simp at hl⟩
    · rw [va_up_ne _ _ e, va_up_ne _ _ e]
      obtain ⟨⟨q1, q2, q3⟩, q4⟩ := h6 p hp
      exact ⟨⟨by rw [e44, if_neg e]; exact q1, q2, fun i l hl => by rw [g.I (by omega)]; exact q3 i l hl⟩, q4.kp g hX⟩
  · have a1 := h7 x hx
    have a4 := sumTo_up hs Lh [] x
    rw [z1, g.I (by omega)]
    simp at a1 a4
    rw [← a1]
    omega
  · obtain ⟨i, hi⟩ := List.getElem?_of_mem hlt
    obtain ⟨y1, y2⟩ := List.getElem?_zip_eq_some.mp hi
    exact ((h6 s hs).2.2 i l t y1 y2).kp g hX
theorem m_sync_loop {s N : Nat} (hs : s < 4) (hN : N ≤ 600) : ∀ (n : Nat) (F : List (Nat × Ltr)) (j : Nat) (w : Wd) (sc : Nat → Int32) (row : List Ltr), N < n + j → F.length + j = N → RMF w m S le sc cl mem kept up dy row held F → (∀ (p : Nat) (e : Nat × Ltr), F[p]? = some e → wI w (m + 43) (4200 * s + (j + p)) = nI e.1) → ok (f_X6_sync_57 n m (nI s) (nI N) (nI j) w) (fun v w' => v = nI N ∧ RMF w' m S le (goAll (F.map Prod.snd) sc row).1 cl mem kept up dy (goAll (F.map Prod.snd) sc row).2 held [] ∧ Mf m w w') := by
  intro n
  induction n with
  | zero => intro F j w sc row a b; omega
  | succ n ih =>
    intro F j w sc row a b h he
    have hM := h.1.1
    rw [f_X6_sync_57.eq_2]
    refine ok_if (fun c => ?_) (fun c => ?_)
    · rw [nI_leI (by omega) (by omega)] at c
      have : F = [] := List.eq_nil_of_length_eq_zero (by omega)
      subst this
      exact ok_ret ⟨rfl, h, Mf.rf⟩
    · rw [nI_leI (by omega) (by omega)] at c
      cases F with
      | nil => simp at b; omega
      | cons e F =>
        obtain ⟨l, t⟩ := e
        have e1 := he 0 (l, t) rfl
        refine ok_mR hM 43 <| ok_mA hM (i4200 s j) (by show _ < 16800; omega) e1 <| ok_chk hM.1 <| ok_call (m_go' h) (fun _ w1 z => ?_)
        obtain ⟨h1, f1, x1⟩ := z
        rw [nI_1]
        refine ok_mono (ih F (j + 1) w1 _ _ (by omega) (by simp at b; omega) h1 (fun p e hp => ?_)) (fun v w' z => ⟨z.1, z.2.1, f1.tr z.2.2⟩)
        rw [x1.I (by omega), show j + 1 + p = j + (p + 1) by omega]
        exact he (p + 1) e hp
theorem m_sync (h : RMF w m S le sc cl mem kept up dy row held []) (h2 : 2 ≤ S) (h4 : S ≤ 4) {s : Nat} (hs : s < S) (hu : up s = true) : ok (f_X6_sync m (nI s) w) (fun v w' => v = nI (held s).length ∧ RMF w' m S le (goAll (held s) sc row).1 cl mem (fun p b => if p = s then mem s b else kept p b) up (va_up dy s false) (goAll (held s) sc row).2 (va_up held s []) [] ∧ Mf m w w') := by
  have hM := h.1.1
  have hmu := (h.2.2.1 s hs).1
  rw [hu] at hmu
  unfold f_X6_sync
  refine ok_chk hM.1 <| ok_use (m_sv_in h h2 h4 hs) <| ok_f (by decide) <| ok_mR hM 22 <| ok_mA hM rfl (by show s < 4; omega) hmu <| ok_f (by decide) <| ok_chk hM.1 ?_
  rw [i2, nI_1]
  refine ok_call (m_copy (d := mem s) (p := 2 * s) (q := 2 * s + 1) (by omega) (by omega) (by omega) hM (fun b hb => ?_)) (fun _ w2 z => ?_)
  · rw [show 8 * (2 * s) + b = 16 * s + b by omega]
    exact (h.2.2.2.1 s b hs hb).1 hu
  obtain ⟨hM2, x2, z3, z4⟩ := z
  have x3 : Mx m (fun q => q = m + 23) w2 (sI w2 (m + 23) s 0) := (Mx.rf (fun q hq => by omega)).sI rfl
  have h3 : RMF (sI w2 (m + 23) s 0) m S le sc cl mem (fun p b => if p = s then mem s b else kept p b) up (va_up dy s false) row held [] ∧ Mf m w (sI w2 (m + 23) s 0) := by
    refine h.re ((x2.mono (fun q hq => by omega) (fun q hq => by omega)).tr (x3.mono (fun q hq => by omega) (fun q hq => by omega))) (fun p hp => ?_) (fun p b hp hb => ⟨fun hup => ?_, ?_⟩)
    · rw [wI_so (by omega), x2.I (by omega), wI_s, x2.I (by omega)]
      obtain ⟨a1, a2⟩ := h.2.2.1 p hp
      by_cases e : p = s
      · subst e; rw [if_pos ⟨rfl, rfl⟩, va_up_self]; exact ⟨a1, rfl⟩
      · rw [if_neg (fun z => e z.2), va_up_ne _ _ e]; exact ⟨a1, a2⟩
    · exact BKM.kp (z4 _ _ (by rcases Nat.lt_trichotomy p s with z | z | z <;> omega) ((h.2.2.2.1 p b hp hb).1 hup)) x3 (fun j a b => by omega)
    · refine BKM.kp ?_ x3 (fun j a b => by omega)
      by_cases e : p = s
      · subst e
        rw [if_pos rfl, show 16 * p + 8 + b = 8 * (2 * p + 1) + b by omega]
        exact z3 b hb
      · rw [if_neg e]
        exact z4 _ _ (by rcases Nat.lt_or_gt_of_ne e with z | z <;> omega) (h.2.2.2.1 p b hp hb).2
  obtain ⟨h5, f5⟩ := h3
  obtain ⟨e44, hlen⟩ := h5.e44 hs
  obtain ⟨F, e1, e2, h6, f6⟩ := h5.inHand hs
  have hF : F.length = (held s).length := by rw [← e1, List.length_map]
  refine ok_mR hM2 23 <| ok_mTZ hM2 rfl (by show s < 4; omega) (Or.inl rfl) (fun hM3 => ?_)
  refine ok_mR hM3 44 <| ok_mA hM3 rfl (by show s < 4; omega) e44 <| ok_mR hM3 44 <| ok_mT hM3 rfl (by show s < 4; omega) (fun hM4 => ?_)
  refine ok_mono (m_sync_loop (N := (held s).length) (by omega) hlen FU F 0 _ _ _ (by unfold FU; omega) (by omega) h6 (fun p e hp => ?_)) (fun v w' z => ?_)
  · rw [wI_so (by omega), Nat.zero_add]; exact e2 p e hp
  · rw [e1] at z
    exact ⟨z.1, z.2.1, (f5.tr f6).tr z.2.2⟩
/-- a letter that server s holds -/
theorem c_hat (h : RC w o S le sc cl mem kept up cn row held) {s : Nat} (hs : s < S) {i : Nat} (hi : i < (held s).length) : ∃ x, f_X3_at (aSv o s + 1) (nI i) w = some (some x, w) ∧ LTC w x (held s)[i] ∧ aMo o S + 45 ≤ x ∧ x < wn w := by
  obtain ⟨La, hr, hl⟩ := h.2.2.2.2.2.2 s hs
  have hil : i < La.length := by rw [hl.1]; exact hi
  have := hr.2.2.2.2.2.1
  have := hr.2.2.2.2.2.2.1
  refine ⟨La[i], ?_, hl.2 i _ _ (List.getElem?_eq_getElem hil) (List.getElem?_eq_getElem hi)⟩
  rw [row_at hr]
  unfold rowGet
  rw [if_neg (nI_pos (by omega)), nI_clamp (by omega), List.getElem?_eq_getElem hil]
theorem c_sync_loop {s : Nat} (hs : s < S) (hN : (held s).length ≤ 600) : ∀ (n j : Nat) (w : Wd) (sc : Nat → Int32) (row : List Ltr), (held s).length < n + j → j ≤ (held s).length → RC w o S le sc cl mem kept up cn row held → ok (f_X5_sync_37 f_X5_sync_62 n o (some (aSv o s)) (nI (held s).length) (nI j) w) (fun v w' => v = nI (held s).length ∧ RC w' o S le (goAll ((held s).drop j) sc row).1 cl mem kept up cn (goAll ((held s).drop j) sc row).2 (va_up held s []) ∧ Cf o S w w') := by
  intro n
  induction n with
  | zero => intro j w sc row a b; omega
  | succ n ih =>
    intro j w sc row a b h
    obtain ⟨⟨ks, -, r1, -, -, u4, u5⟩, -⟩ := h.2.2.1 s hs
    obtain ⟨La, hLa, hLl⟩ := h.2.2.2.2.2.2 s hs
    rw [f_X5_sync_37.eq_2]
    refine ok_if (fun c => ?_) (fun c => ?_)
    · rw [nI_leI (by omega) (by omega)] at c
      rw [List.drop_eq_nil_of_le c]
      unfold f_X5_sync_62
      exact ok_gR ks r1 <| ok_chk hLa.1 <| ok_call (c_clear hs h) (fun _ w1 z => ok_ret ⟨rfl, z⟩)
    · rw [nI_leI (by omega) (by omega)] at c
      have hj : j < (held s).length := by omega
      obtain ⟨x, e1, e2, e3, e4⟩ := c_hat h hs hj
      refine ok_gR ks r1 <| ok_chk hLa.1 <| ok_use e1 <| ok_chk h.2.1.1.1 <| ok_call (c_send h e2 e3 e4) (fun _ w1 z => ?_)
      rw [nI_1, List.drop_eq_getElem_cons hj]
      exact ok_mono (ih (j + 1) w1 _ _ (by omega) (by omega) z.1) (fun v w' y => ⟨y.1, y.2.1, z.2.tr y.2.2⟩)
theorem c_sync (h : RC w o S le sc cl mem kept up cn row held) {s : Nat} (hs : s < S) (hu : up s = true) (hN : (held s).length ≤ 600) : ok (f_X5_sync o (nI s) w) (fun v w' => v = nI (held s).length ∧ RC w' o S le (goAll (held s) sc row).1 cl mem (fun p b => if p = s then mem s b else kept p b) up (va_up cn s true) (goAll (held s) sc row).2 (va_up held s []) ∧ Cf o S w w') := by
  have k0 := h.2.1.1.1
  obtain ⟨⟨ks, -, r1, -, -, u4, u5⟩, -⟩ := h.2.2.1 s hs
  rw [hu] at u4
  unfold f_X5_sync
  refine ok_chk k0 <| ok_use (c_sv_in h hs) <| ok_f (by simp) <| ok_gI ks u4 <| ok_f (by decide) <| ok_chk ks <| ok_call (c_keep hs h) (fun _ w1 z => ?_)
  obtain ⟨h1, f1⟩ := z
  obtain ⟨⟨ks, -, r1, -, -, u4, u5⟩, -⟩ := h1.2.2.1 s hs
  obtain ⟨La, hLa, hLl⟩ := h1.2.2.2.2.2.2 s hs
  refine ok_gR ks r1 <| ok_gI hLa.1 (v := nI (held s).length) (by rw [hLa.2.2.2.2.1, hLl.1]) ?_
  exact ok_mono (c_sync_loop hs hN FU 0 w1 sc row (by unfold FU; omega) (by omega) h1) (fun v w' y => ⟨y.1, y.2.1, f1.tr y.2.2⟩)
theorem st_sync (x : Int32) : Same2 o S le (f_X5_sync o x) (f_X6_sync (aMo o S) x) := by
  rintro w k hk ⟨sc, cl, mem, kept, up, dy, row, held, hR, hI⟩
  have k0 := hR.1.2.1.1.1
  have m0 := hR.2.1.1.1
  have hM := hR.2.1.1
  have h2 := hR.1.1.1
  have h4 := hR.1.1.2.1
  have out : (x < 0 ∨ nI S ≤ x) → ∃ v w1 w2, f_X5_sync o x w = some (v, w1) ∧ wK w1 (aMo o S) = 7 ∧ f_X6_sync (aMo o S) x w1 = some (v, w2) ∧ Rel w2 o S le (k + 1) := by
    intro hx
    refine mkSame (r := -1) hR hI hk (ok_eq ?_) (ok_eq ?_)
    · unfold f_X5_sync
      exact ok_chk k0 (ok_use (c_sv_out hR.1 hx) (ok_t rfl (ok_ret ⟨rfl, rfl⟩)))
    · unfold f_X6_sync
      exact ok_chk m0 (ok_use (m_sv_out hR.2 h2 h4 hx) (ok_t rfl (ok_ret ⟨rfl, rfl⟩)))
  rcases pk_ix x (n := S) (by omega) with hx | hx | ⟨s, hs, rfl⟩
  · exact out (Or.inl hx)
  · exact out (Or.inr hx)
  · obtain ⟨⟨ks, -, r1, -, -, u4, u5⟩, -⟩ := hR.1.2.2.1 s hs
    have hmu := (hR.2.2.2.1 s hs).1
    cases hu : up s with
    | false =>
      rw [hu] at u4 hmu
      refine mkSame (r := -3) hR hI hk (ok_eq ?_) (ok_eq ?_)
      · unfold f_X5_sync
        exact ok_chk k0 <| ok_use (c_sv_in hR.1 hs) <| ok_f (by simp) <| ok_gI ks u4 <| ok_t (by rfl) <| ok_ret ⟨rfl, rfl⟩
      · unfold f_X6_sync
        exact ok_chk m0 <| ok_use (m_sv_in hR.2 h2 h4 hs) <| ok_f (by decide) <| ok_mR hM 22 <| ok_mA hM rfl (by show s < 4; omega) hmu <| ok_t (by rfl) <| ok_ret ⟨rfl, rfl⟩
    | true =>
      have hI1 : Inv S (k + 1) (goAll (held s) sc row).1 cl mem (fun p b => if p = s then mem s b else kept p b) up (goAll (held s) sc row).2 (va_up held s []) := by
        refine ((hI.lts hk (fun op a0 a1 a2 a3 a4 => ⟨fun t ht => ?_, fun p hp t ht => ?_⟩) (fun p hp => ?_)).sc' (goAll_4 _ _ _)).bks (fun op a0 a1 a2 a3 p b hp hb => ⟨(a2 p b hp hb).1, ?_⟩)
        · rcases goAll_mem _ _ _ _ ht with z | z
          · exact a3 t z
          · exact a4 s hs t z
        · by_cases e : p = s
          · subst e; rw [va_up_self] at ht; simp at ht
          · rw [va_up_ne _ _ e] at ht; exact a4 p hp t ht
        · by_cases e : p = s
          · subst e; rw [va_up_self]; simp
          · rw [va_up_ne _ _ e]; omega
        · by_cases e : p = s
          · subst e; simp only [if_true]; exact (a2 p b hp hb).1 hu
          · simp only [if_neg e]; exact (a2 p b hp hb).2
      have hlen := hI.2.2.2 s hs
      refine mkStep hR (ok_mono (c_sync hR.1 hs hu (by omega)) (fun v w' z => ⟨z.1, z.2.1.ext (fun p b hp hb => ?_) (fun p b hp hb => ?_) (fun _ _ => rfl) (fun p hp => ?_) (fun _ _ => rfl), z.2.2⟩)) (fun w1 h1 => m_sync h1 h2 h4 hs hu) hI1
      · unfold mxm
        by_cases e : p = s
        · subst e; rw [hu]; rfl
        · simp only [if_neg e]
      · by_cases e : p = s
        · subst e
          simp only [if_true]
          unfold mxm
          rw [hu]; rfl
        · simp only [if_neg e]
      · unfold cnf
        by_cases e : p = s
        · subst e; rw [va_up_self, va_up_self, hu]; rfl
        · rw [va_up_ne _ _ e, va_up_ne _ _ e]
end SY
