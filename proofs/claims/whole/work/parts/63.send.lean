/-! LETTERS OF THE CLASS: a new one; into the row; held; out of the row -/
section SE
variable {w w' : Wd} {o S : Nat} {le : Int32} {sc : Nat → Int32} {cl : Nat → ClD} {mem kept : Nat → Nat → BkD} {up cn dy : Nat → Bool} {row : List Ltr} {held : Nat → List Ltr}
theorem LTC.cf {x : Nat} {t : Ltr} (h : LTC w x t) (hx : aMo o S + 45 ≤ x) (hxn : x < wn w) (g : Cf o S w w') : LTC w' x t := h.ag hx hxn g.1 (g.2.mono fun q hq => ⟨by omega, hq.2⟩)
theorem LtsC.app {T x : Nat} {La : List Nat} {t : Ltr} (h : LtsC w T La row) (ht : LTC w x t) (h1 : T ≤ x) (h2 : x < wn w) : LtsC w T (La ++ [x]) (row ++ [t]) := by
  refine ⟨by simp [h.1], fun i y u hy hu => ?_⟩
  by_cases hi : i < La.length
  · rw [List.getElem?_append_left hi] at hy
    rw [List.getElem?_append_left (by rw [← h.1]; exact hi)] at hu
    exact h.2 i y u hy hu
  · have hi2 : i = La.length := by
      have := (List.getElem?_eq_some_iff.mp hy).1
      simp at this; omega
    subst hi2
    rw [List.getElem?_append_right (Nat.le_refl _), Nat.sub_self] at hy
    rw [h.1, List.getElem?_append_right (Nat.le_refl _), Nat.sub_self] at hu
    cases hy; cases hu
    exact ⟨ht, h1, h2⟩
/-- a letter to the end of a row at a, where there is room -/
theorem c_app {a cap x : Nat} {La : List Nat} {t : Ltr} (hr : isRow w a cap La) (hl : LtsC w (aMo o S + 45) La row) (ha : a + 1 < aMo o S + 45) (hx : LTC w x t) (h1 : aMo o S + 45 ≤ x) (h2 : x < wn w) (hw : Wf w) (hlt : La.length < cap) : ok (f_X3_append a (some x) w) (fun v w' => v = 1 ∧ wn w' = wn w ∧ Wf w' ∧ Ag (fun q => ¬ (q = a ∨ q = a + 1) ∧ q < wn w) w w' ∧ isRow w' a cap (La ++ [x]) ∧ LtsC w' (aMo o S + 45) (La ++ [x]) (row ++ [t])) := by
  obtain ⟨e, hr'⟩ := row_app hr hx.1.1 hlt
  have g : Ag (fun q => ¬ (q = a ∨ q = a + 1) ∧ q < wn w) w (sI (sR w (a + 1) La.length (some x)) a 1 (nI (La.length + 1))) := fun q hq => ⟨rfl, rfl, up2_n _ _ _ (by omega), rfl, up2_n _ _ _ (by omega)⟩
  have gT : Ag (fun q => aMo o S + 45 ≤ q ∧ q < wn w) w (sI (sR w (a + 1) La.length (some x)) a 1 (nI (La.length + 1))) := g.mono fun q hq => ⟨by omega, hq.2⟩
  have hn : wn w ≤ wn (sI (sR w (a + 1) La.length (some x)) a 1 (nI (La.length + 1))) := Nat.le_refl _
  exact ⟨_, _, e, rfl, rfl, hw, g, hr', (hl.ag hn gT).app (hx.ag h1 h2 hn gT) h1 h2⟩
theorem c_send {x : Nat} {t : Ltr} (h : RC w o S le sc cl mem kept up cn row held) (hx : LTC w x t) (h1 : aMo o S + 45 ≤ x) (h2 : x < wn w) : ok (f_X5_send o (some x) w) (fun _ w' => RC w' o S le (goL sc row) cl mem kept up cn (goR row t) held ∧ Cf o S w w') := by
  have k0 := h.2.1.1.1
  have r2 := h.2.1.1.2.2.2
  have i6 := h.2.1.2.1.2.2.2.1
  obtain ⟨La, hr, hl⟩ := h.2.2.2.2.2.1
  have hc := hr.2.2.2.2.2.1
  unfold f_X5_send goL goR
  rw [← hl.1]
  refine ok_f (by simp) (ok_gR k0 r2 (ok_chk hr.1 ?_))
  by_cases c : La.length = 400
  · rw [if_pos c, if_pos c]
    exact ok_use (row_full hr (some x) c) (ok_t rfl (ok_gI k0 i6 (ok_pI k0 (ok_ret (h.num (Or.inr (Or.inr (Or.inl ⟨rfl, rfl⟩))))))))
  · rw [if_neg c, if_neg c]
    refine ok_call (c_app (S := S) (o := o) hr hl (by unfold aRw aMo; omega) hx h1 h2 h.1.2.2.1 (by omega)) (fun v w1 z => ?_)
    obtain ⟨rfl, z1, z2, z3, z4, z5⟩ := z
    exact ok_f (by decide) (ok_ret (h.rw_ z1 z2 z3 z4 z5))
theorem c_sendFrom {x s : Nat} {t : Ltr} (h : RC w o S le sc cl mem kept up cn row held) (hs : s < S) (hh : (held s).length < 512) (hx : LTC w x t) (h1 : aMo o S + 45 ≤ x) (h2 : x < wn w) : ok (f_X5_sendFrom o (some (aSv o s)) (some x) w) (fun _ w' => RC w' o S le (sfL (!cn s) sc row) cl mem kept up cn (sfR (!cn s) row t) (sfH (!cn s) held s t) ∧ Cf o S w w') := by
  have k0 := h.2.1.1.1
  have r2 := h.2.1.1.2.2.2
  have i6 := h.2.1.2.1.2.2.2.1
  obtain ⟨⟨ks, -, r1, -, -, u4, u5⟩, -⟩ := h.2.2.1 s hs
  obtain ⟨La, hr, hl⟩ := h.2.2.2.2.2.1
  obtain ⟨Lb, hr', hl'⟩ := h.2.2.2.2.2.2 s hs
  have hc := hr.2.2.2.2.2.1
  unfold f_X5_sendFrom sfL sfR sfH
  refine ok_gI ks u5 (ok_if (fun c => ok_gR ks r1 ?_) (fun c => ok_gR k0 r2 ?_))
  · rw [bI_0 c]
    unfold f_X5_sendFrom_18
    refine ok_chk hr'.1 (ok_call (c_app (S := S) (o := o) hr' hl' (by unfold aSv aMo; omega) hx h1 h2 h.1.2.2.1 (by rw [hl'.1]; exact hh)) (fun v w1 z => ?_))
    obtain ⟨rfl, z1, z2, z3, z4, z5⟩ := z
    exact ok_f (by decide) (ok_ret (h.hd hs z1 z2 z3 z4 z5))
  · rw [bI_1 c]
    show ok (f_X5_sendFrom_18 o (some x) (some (aRw o S)) w) (fun _ w' => RC w' o S le (goL sc row) cl mem kept up cn (goR row t) held ∧ Cf o S w w')
    unfold f_X5_sendFrom_18 goL goR
    rw [← hl.1]
    refine ok_chk hr.1 ?_
    by_cases c : La.length = 400
    · rw [if_pos c, if_pos c]
      exact ok_use (row_full hr (some x) c) (ok_t rfl (ok_gI k0 i6 (ok_pI k0 (ok_ret (h.num (Or.inr (Or.inr (Or.inl ⟨rfl, rfl⟩))))))))
    · rw [if_neg c, if_neg c]
      refine ok_call (c_app (S := S) (o := o) hr hl (by unfold aRw aMo; omega) hx h1 h2 h.1.2.2.1 (by omega)) (fun v w1 z => ?_)
      obtain ⟨rfl, z1, z2, z3, z4, z5⟩ := z
      exact ok_f (by decide) (ok_ret (h.rw_ z1 z2 z3 z4 z5))
theorem LtsC.er {T : Nat} {La : List Nat} (h : LtsC w T La row) {i : Nat} (hi : i < La.length) : LtsC w T (La.eraseIdx i) (row.eraseIdx i) := by
  have hi' : i < row.length := by rw [← h.1]; exact hi
  refine ⟨by rw [List.length_eraseIdx_of_lt hi, List.length_eraseIdx_of_lt hi', h.1], fun p x t hx ht => ?_⟩
  rw [List.getElem?_eraseIdx] at hx ht
  by_cases c : p < i
  · rw [if_pos c] at hx ht; exact h.2 p x t hx ht
  · rw [if_neg c] at hx ht; exact h.2 (p + 1) x t hx ht
theorem c_rmv (h : RC w o S le sc cl mem kept up cn row held) {i : Nat} (hi : i < row.length) : ok (f_X3_removeAt (aRw o S) (nI i) w) (fun _ w' => RC w' o S le sc cl mem kept up cn (row.eraseIdx i) held ∧ Cf o S w w') := by
  obtain ⟨La, hr, hl⟩ := h.2.2.2.2.2.1
  have hil : i < La.length := by rw [hl.1]; exact hi
  refine ok_mono (row_rm hr hil) (fun _ w1 z => ?_)
  obtain ⟨z1, z2, z3, z4, z5, z6, z7⟩ := z
  have g : Ag (fun q => ¬ (q = aRw o S ∨ q = aRw o S + 1) ∧ q < wn w) w w1 := fun q hq => ⟨by rw [z3], by rw [z4], z6 q (by omega), by rw [z5], z7 q (by omega)⟩
  exact h.rw_ z2 (fun a ha => by rw [z2]; exact h.1.2.2.1 a (by rw [← z3]; exact ha)) g z1 ((hl.ag (by omega) (g.mono fun q hq => ⟨by unfold aRw; unfold aMo at hq; omega, hq.2⟩)).er hil)
-- new cells
def NewF (w w' : Wd) : Prop := wn w ≤ wn w' ∧ Wf w' ∧ Ag (fun q => q < wn w) w w'
theorem NewF.tr {w1 : Wd} (h1 : NewF w w1) (h2 : NewF w1 w') : NewF w w' := ⟨Nat.le_trans h1.1 h2.1, h2.2.1, fun q hq => by
  obtain ⟨a1, a2, a3, a4, a5⟩ := h1.2.2 q hq
  obtain ⟨b1, b2, b3, b4, b5⟩ := h2.2.2 q (Nat.lt_of_lt_of_le hq h1.1)
  exact ⟨b1.trans a1, b2.trans a2, b3.trans a3, b4.trans a4, b5.trans a5⟩⟩
theorem NewF.new {kd n : Nat} (h : Wf w) : NewF w (newC w kd n) := by
  refine ⟨Nat.le_succ _, fun a ha => ?_, fun q hq => ?_⟩
  · obtain ⟨e1, e2, -⟩ := wnew w kd n a
    rw [e1]
    rw [e2] at ha
    by_cases e : a = wn w
    · omega
    · rw [if_neg e] at ha
      have := h a ha
      omega
  · obtain ⟨e1, e2, e3, e4, e5, e6⟩ := wnew w kd n q
    have hne : q ≠ wn w := by
      have : q < wn w := hq
      omega
    rw [e2, e3, e4, e5, e6, if_neg hne, if_neg hne, if_neg hne, if_neg hne, if_neg hne]
    exact ⟨rfl, rfl, rfl, rfl, rfl⟩
theorem NewF.sI {w1 : Wd} {a k : Nat} {v : Int32} (h : NewF w w1) (ha : wn w ≤ a) : NewF w (sI w1 a k v) := ⟨h.1, h.2.1, fun q hq => by
  obtain ⟨a1, a2, a3, a4, a5⟩ := h.2.2 q hq
  have hq' : q < wn w := hq
  exact ⟨a1, a2, (up2_n _ _ _ (by omega)).trans a3, a4, a5⟩⟩
theorem NewF.sL {w1 : Wd} {a k : Nat} {v : Int64} (h : NewF w w1) (ha : wn w ≤ a) : NewF w (sL w1 a k v) := ⟨h.1, h.2.1, fun q hq => by
  obtain ⟨a1, a2, a3, a4, a5⟩ := h.2.2 q hq
  have hq' : q < wn w := hq
  exact ⟨a1, a2, a3, (up2_n _ _ _ (by omega)).trans a4, a5⟩⟩
theorem NewF.sR {w1 : Wd} {a k : Nat} {v : Option Nat} (h : NewF w w1) (ha : wn w ≤ a) : NewF w (sR w1 a k v) := ⟨h.1, h.2.1, fun q hq => by
  obtain ⟨a1, a2, a3, a4, a5⟩ := h.2.2 q hq
  have hq' : q < wn w := hq
  exact ⟨a1, a2, a3, a4, (up2_n _ _ _ (by omega)).trans a5⟩⟩
theorem RC.nw (h : RC w o S le sc cl mem kept up cn row held) (g : NewF w w') : RC w' o S le sc cl mem kept up cn row held ∧ Cf o S w w' := h.new_ g.1 g.2.1 g.2.2
/-- a letter's cell in the making: its ints and longs by field -/
def Lcell (w : Wd) (x : Nat) (fI : Nat → Int32) (fL : Nat → Int64) (r : Option Nat) : Prop := wK w x = 3 ∧ x < wn w ∧ wI w x = fI ∧ wL w x = fL ∧ wR w x 14 = r
theorem ok_new {α : Type} {P : α → Wd → Prop} {f : Wd → Option (α × Wd)} (hw : Wf w) (h : ∀ w1, NewF w w1 → Lcell w1 (wn w) (fun _ => 0) (fun _ => 0) none → ok (f w1) P) : ok (nwO w 3 f) P := by
  refine ok_nwO (h _ (NewF.new hw) ?_)
  obtain ⟨e1, e2, e3, e4, e5, e6⟩ := wnew w 3 0 (wn w)
  rw [if_pos rfl] at e2 e4 e5 e6
  exact ⟨e2, by rw [e1]; omega, e4, e5, by rw [e6]⟩
theorem ok_nI {α : Type} {P : α → Wd → Prop} {w1 : Wd} {x k : Nat} {v : Int32} {fI : Nat → Int32} {fL : Nat → Int64} {r : Option Nat} {f : Wd → Option (α × Wd)} (g : NewF w w1) (c : Lcell w1 x fI fL r) (hx : wn w ≤ x) (h : ∀ w2, NewF w w2 → Lcell w2 x (va_up fI k v) fL r → ok (f w2) P) : ok (pI w1 (some x) 3 k v f) P := by
  obtain ⟨c1, c2, c3, c4, c5⟩ := c
  refine ok_pI c1 (h _ (g.sI hx) ⟨c1, c2, ?_, c4, c5⟩)
  funext j
  rw [wI_s]
  by_cases e : j = k
  · subst e; rw [if_pos ⟨rfl, rfl⟩, va_up_self]
  · rw [if_neg (fun z => e z.2), va_up_ne _ _ e, c3]
theorem ok_nL {α : Type} {P : α → Wd → Prop} {w1 : Wd} {x k : Nat} {v : Int64} {fI : Nat → Int32} {fL : Nat → Int64} {r : Option Nat} {f : Wd → Option (α × Wd)} (g : NewF w w1) (c : Lcell w1 x fI fL r) (hx : wn w ≤ x) (h : ∀ w2, NewF w w2 → Lcell w2 x fI (va_up fL k v) r → ok (f w2) P) : ok (pL w1 (some x) 3 k v f) P := by
  obtain ⟨c1, c2, c3, c4, c5⟩ := c
  refine ok_pL c1 (h _ (g.sL hx) ⟨c1, c2, c3, ?_, c5⟩)
  funext j
  rw [wL_s]
  by_cases e : j = k
  · subst e; rw [if_pos ⟨rfl, rfl⟩, va_up_self]
  · rw [if_neg (fun z => e z.2), va_up_ne _ _ e, c4]
theorem ok_ini {α : Type} {P : α → Wd → Prop} {w1 : Wd} {x : Nat} {a b c : Int32} {fI : Nat → Int32} {fL : Nat → Int64} {r : Option Nat} {f : Unit → Wd → Option (α × Wd)} (g : NewF w w1) (cc : Lcell w1 x fI fL r) (hx : wn w ≤ x) (h : ∀ w2, NewF w w2 → Lcell w2 x (va_up (va_up (va_up fI 0 a) 1 b) 2 c) fL r → ok (f () w2) P) : ok (bnd (f_X2_init x a b c w1) f) P := by
  refine ok_bnd ?_
  unfold f_X2_init
  exact ok_nI g cc hx (fun w2 g2 c2 => ok_nI g2 c2 hx (fun w3 g3 c3 => ok_nI g3 c3 hx (fun w4 g4 c4 => ok_ret (h w4 g4 c4))))
-- what is known of letters stays known
theorem Inv.sc' {k : Nat} {sc' : Nat → Int32} (h : Inv S k sc cl mem kept up row held) (e : sc' 4 = sc 4) : Inv S k sc' cl mem kept up row held := by
  obtain ⟨h1, ⟨op, h2, h3, h4⟩, h5, h6⟩ := h
  exact ⟨h1, ⟨op, h2, e.trans h3, h4⟩, h5, h6⟩
theorem Inv.lts {k : Nat} {row' : List Ltr} {held' : Nat → List Ltr} (h : Inv S k sc cl mem kept up row held) (hk : k < 512) (hl : ∀ op, op ≤ 600 → (∀ c, c < 6 → (cl c).1 = 0 ∨ Own cl op c (cl c).1) → (∀ s b, s < S → b < 8 → (up s = true → BkOk S cl op (mem s b)) ∧ BkOk S cl op (kept s b)) → (∀ t, t ∈ row → LtOk S cl op t) → (∀ s, s < S → ∀ t, t ∈ held s → LtOk S cl op t) → (∀ t, t ∈ row' → LtOk S cl op t) ∧ ∀ s, s < S → ∀ t, t ∈ held' s → LtOk S cl op t) (hh : ∀ s, s < S → (held' s).length ≤ (held s).length + 1) : Inv S (k + 1) sc cl mem kept up row' held' := by
  obtain ⟨h1, ⟨op, h2, h3, h4, h5, h6, h7⟩, h8, h9⟩ := h
  obtain ⟨a, b⟩ := hl op (by omega) h4 h5 h6 h7
  exact ⟨by omega, ⟨op, by omega, h3, h4, h5, a, b⟩, h8, fun s hs => by have := hh s hs; have := h9 s hs; omega⟩
theorem goR_mem {t t' : Ltr} (h : t' ∈ goR row t) : t' ∈ row ∨ t' = t := by
  unfold goR at h
  split at h
  · exact Or.inl h
  · rcases List.mem_append.mp h with z | z
    · exact Or.inl z
    · exact Or.inr (List.mem_singleton.mp z)
theorem sfR_mem {d : Bool} {t t' : Ltr} (h : t' ∈ sfR d row t) : t' ∈ row ∨ t' = t := by
  unfold sfR at h
  split at h
  · exact Or.inl h
  · exact goR_mem h
theorem sfH_mem {d : Bool} {t t' : Ltr} {s p : Nat} (h : t' ∈ sfH d held s t p) : t' ∈ held p ∨ t' = t := by
  unfold sfH at h
  split at h
  · by_cases e : p = s
    · subst e
      rw [va_up_self] at h
      rcases List.mem_append.mp h with z | z
      · exact Or.inl z
      · exact Or.inr (List.mem_singleton.mp z)
    · rw [va_up_ne _ _ e] at h
      exact Or.inl h
  · exact Or.inl h
theorem sfH_len {d : Bool} {t : Ltr} {s p : Nat} : (sfH d held s t p).length ≤ (held p).length + 1 := by
  unfold sfH
  split
  · by_cases e : p = s
    · subst e
      rw [va_up_self]; simp
    · rw [va_up_ne _ _ e]; omega
  · omega
theorem goL4 : goL sc row 4 = sc 4 := by
  unfold goL
  split
  · exact va_up_ne _ _ (by omega)
  · rfl
theorem sfL4 {d : Bool} : sfL d sc row 4 = sc 4 := by
  unfold sfL
  split
  · rfl
  · exact goL4
/-- one more letter was sent -/
theorem Inv.send {k s : Nat} {d : Bool} {t : Ltr} (h : Inv S k sc cl mem kept up row held) (hk : k < 512) (ht : ∀ op, op ≤ 600 → (∀ c, c < 6 → (cl c).1 = 0 ∨ Own cl op c (cl c).1) → (∀ s b, s < S → b < 8 → (up s = true → BkOk S cl op (mem s b)) ∧ BkOk S cl op (kept s b)) → (∀ t, t ∈ row → LtOk S cl op t) → LtOk S cl op t) : Inv S (k + 1) (sfL d sc row) cl mem kept up (sfR d row t) (sfH d held s t) := by
  refine (h.lts hk (fun op a0 a1 a2 a3 a4 => ⟨fun t' z => ?_, fun p hp t' z => ?_⟩) (fun p hp => sfH_len)).sc' sfL4
  · rcases sfR_mem z with z | rfl
    · exact a3 t' z
    · exact ht op a0 a1 a2 a3
  · rcases sfH_mem z with z | rfl
    · exact a4 p hp t' z
    · exact ht op a0 a1 a2 a3
theorem Inv.go {k : Nat} {t : Ltr} (h : Inv S k sc cl mem kept up row held) (hk : k < 512) (ht : ∀ op, op ≤ 600 → (∀ c, c < 6 → (cl c).1 = 0 ∨ Own cl op c (cl c).1) → (∀ s b, s < S → b < 8 → (up s = true → BkOk S cl op (mem s b)) ∧ BkOk S cl op (kept s b)) → (∀ t, t ∈ row → LtOk S cl op t) → LtOk S cl op t) : Inv S (k + 1) (goL sc row) cl mem kept up (goR row t) held := h.send (s := 0) (d := false) hk ht
end SE
