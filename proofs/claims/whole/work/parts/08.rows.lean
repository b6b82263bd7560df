/-! ROWS: an instruction over the world as functions -/
def vOk (t : Nat) (v : Value) : Prop := match t with
  | 0 => ∃ x, v = .int x
  | 1 => ∃ x, v = .long x
  | 2 => ∃ r, v = va_rf r
  | _ => v = .int 0 ∨ v = .int 1
/-- a field that the code of 'own' names by its entry ix: the field k of class ci, of type t -/
def FL (own : String) (ix ci k t : Nat) (fin : Bool) : Prop := ∃ (C : String) (T : u_T) (N : Nat) (ty : Nat → FieldType), vwCl[ci]? = some (C, T, N) ∧ (∀ w ∈ u_ws C T N, w ∈ Gw) ∧ (∀ k, k < N → parseFieldDescriptor (T k).2.2.1 = some (ty k)) ∧ (∀ a, a < N → ∀ b, b < N → a ≠ b → (T a).2.1 ≠ (T b).2.1) ∧ k < N ∧ (fT ci)[k]? = some t ∧ Cond.fieldLink own ix C (T k).2.1 (T k).2.2.1 ∈ Gw ∧ (T k).1 = C ∧ (∀ v, vOk t v → narrow (ty k) v = v ∧ fits (ty k) v = true) ∧ (T k).2.2.2 = fin ∧ (fin = true → C = own) ∧ ci < 99
/-- a field that is read -/
def FG (own : String) (ix ci k t : Nat) : Prop := ∃ (C : String) (T : u_T) (N : Nat), vwCl[ci]? = some (C, T, N) ∧ (∀ w ∈ u_ws C T N, w ∈ Gw) ∧ k < N ∧ (fT ci)[k]? = some t ∧ Cond.fieldLink own ix C (T k).2.1 (T k).2.2.1 ∈ Gw ∧ (T k).1 = C ∧ ci < 99
theorem FL.g {own : String} {ix ci k t : Nat} {fin : Bool} (h : FL own ix ci k t fin) : FG own ix ci k t := by
  obtain ⟨C, T, N, ty, hc, hin, -, -, hk, hft, hl, hT, -, -, -, h99⟩ := h
  exact ⟨C, T, N, hc, hin, hk, hft, hl, hT, h99⟩
theorem vo_i : ∀ v, vOk 0 v → narrow .int v = v ∧ fits .int v = true := by rintro v ⟨x, rfl⟩; exact ⟨rfl, rfl⟩
theorem vo_l : ∀ v, vOk 1 v → narrow .long v = v ∧ fits .long v = true := by rintro v ⟨x, rfl⟩; exact ⟨rfl, rfl⟩
theorem vo_o (C : String) : ∀ v, vOk 2 v → narrow (.object C) v = v ∧ fits (.object C) v = true := by rintro v ⟨r, rfl⟩; cases r <;> exact ⟨rfl, rfl⟩
theorem vo_a (t : FieldType) : ∀ v, vOk 2 v → narrow (.array t) v = v ∧ fits (.array t) v = true := by rintro v ⟨r, rfl⟩; cases r <;> exact ⟨rfl, rfl⟩
theorem vo_z : ∀ v, vOk 3 v → narrow .boolean v = v ∧ fits .boolean v = true := by rintro v (rfl | rfl) <;> decide +kernel
/-- what a method's walk stands on -/
def Cx (D : va_G) (aC : Nat → ClassId) (p : Program) (s : State) (m : MethodId) (args : Array Value) (meth : Method) (c : Code) (cc : ByteArray) (own : String) (nL : Nat) (nm : String) (ret : Option FieldType) : Prop :=
  p.tables.exec = Jvm.exec ∧ c.code = cc ∧ c.maxLocals = nL ∧ s.vm.findClass own = some m.cls ∧ meth.locks = false ∧ meth.name = nm ∧ meth.sig.returnType = ret ∧ (∀ w ∈ Gw, w.before args s = true) ∧ KX D aC s
def Qr (D : va_G) (aC : Nat → ClassId) (b0 : Nat) (ov : Option Value) (w' : Wd) : Array Value → State → Outcome → State → Prop := fun _ st oc t => (oc = .returned ov ∧ Mm D aC b0 w' t.heap) ∧ va_F (fun q : Nat => b0 ≤ q) st t
abbrev Fb (b0 : Nat) : Nat → Prop := fun q => b0 ≤ q
theorem Mm.obj {D : va_G} {aC : Nat → ClassId} {b0 : Nat} {w : Wd} {H : Heap} (M : Mm D aC b0 w H) {a ci : Nat} (ha : wK w a = ci + 1) (hc : ci < 99) : (wl aC b0 w)[a - b0]? = some (a, .inr (ci, flds w a (fT ci))) := by
  obtain ⟨h0, h1⟩ := M.2.2.1 a (by omega)
  rw [wl_get h0 h1]
  unfold cellOf
  rw [if_pos (by omega), ha, Nat.add_sub_cancel]
theorem Mm.arr {D : va_G} {aC : Nat → ClassId} {b0 : Nat} {w : Wd} {H : Heap} (M : Mm D aC b0 w H) {a t : Nat} (ha : wK w a = 100 + t) : (wl aC b0 w)[a - b0]? = some (a, .inl (aC t, aRow w a t)) := by
  obtain ⟨h0, h1⟩ := M.2.2.1 a (by omega)
  rw [wl_get h0 h1]
  unfold cellOf
  rw [if_neg (by omega), ha, Nat.add_sub_cancel_left]
theorem Mm.upd {D : va_G} {aC : Nat → ClassId} {b0 : Nat} {w w' : Wd} {H H1 : Heap} {a : Nat} (M : Mm D aC b0 w H) (ha : wK w a ≠ 0) (hz : H1.size = H.size) (hn : wn w' = wn w) (hk : wK w' = wK w) (ho : ∀ b, b ≠ a → cellOf aC w' b = cellOf aC w b) (hP : va_P D vwCl ((wl aC b0 w).set (a - b0) (a, cellOf aC w' a)) H1) : Mm D aC b0 w' H1 := by
  obtain ⟨h0, h1⟩ := M.2.2.1 a ha
  rw [wl_set h0 hn ho] at hP
  exact ⟨by rw [hz, hn]; exact M.1, by rw [hn]; exact M.2.1, by rw [hk, hn]; exact M.2.2.1, hP⟩
theorem flds_get {w : Wd} {a k t : Nat} {ts : List Nat} (h : ts[k]? = some t) : (flds w a ts)[k]? = some (fV w a k t) := by
  unfold flds
  rw [List.getElem?_mapIdx, h]
  rfl
theorem flds_set {w w' : Wd} {a k t : Nat} {ts : List Nat} {v : Value} (h : ts[k]? = some t) (h1 : fV w' a k t = v) (h2 : ∀ j u, j ≠ k → fV w' a j u = fV w a j u) : flds w' a ts = (flds w a ts).set k v := by
  apply List.ext_getElem?
  intro i
  have hl : k < ts.length := (List.getElem?_eq_some_iff.mp h).1
  by_cases hi : i = k
  · subst hi
    rw [List.getElem?_set_self (by unfold flds; rw [List.length_mapIdx]; exact hl), flds_get h, h1]
  · rw [List.getElem?_set_ne (Ne.symm hi)]
    unfold flds
    rw [List.getElem?_mapIdx, List.getElem?_mapIdx]
    cases ts[i]? with
    | none => rfl
    | some u => simp only [Option.map_some]; rw [h2 i u hi]
theorem flds_oth {w w' : Wd} {b : Nat} (h : ∀ j u, fV w' b j u = fV w b j u) (ts : List Nat) : flds w' b ts = flds w b ts := by
  unfold flds
  congr 1
  funext k t
  exact h k t
theorem up2_s {α : Type} (f : Nat → Nat → α) (a k : Nat) (v : α) : up2 f a k v a = va_up (f a) k v := by simp [up2, va_up]
theorem up2_n {α : Type} (f : Nat → Nat → α) {a b : Nat} (k : Nat) (v : α) (h : b ≠ a) : up2 f a k v b = f b := by simp [up2, va_up, h]
theorem cell_oth {aC : Nat → ClassId} {w w' : Wd} {b : Nat} (hk : wK w' b = wK w b) (hN : wN w' b = wN w b) (hI : wI w' b = wI w b) (hL : wL w' b = wL w b) (hR : wR w' b = wR w b) : cellOf aC w' b = cellOf aC w b := by
  have hf : ∀ j u, fV w' b j u = fV w b j u := by
    intro j u
    unfold fV
    rw [hI, hL, hR]
  have hr : ∀ t, aRow w' b t = aRow w b t := by
    intro t
    unfold aRow
    rw [hN, hI, hL, hR]
  unfold cellOf
  rw [hk, flds_oth hf, hr]
theorem sI_oth {aC : Nat → ClassId} {w : Wd} {a k : Nat} {x : Int32} : ∀ b, b ≠ a → cellOf aC (sI w a k x) b = cellOf aC w b := fun b h => cell_oth rfl rfl (up2_n _ _ _ h) rfl rfl
theorem sL_oth {aC : Nat → ClassId} {w : Wd} {a k : Nat} {x : Int64} : ∀ b, b ≠ a → cellOf aC (sL w a k x) b = cellOf aC w b := fun b h => cell_oth rfl rfl rfl (up2_n _ _ _ h) rfl
theorem sR_oth {aC : Nat → ClassId} {w : Wd} {a k : Nat} {x : Option Nat} : ∀ b, b ≠ a → cellOf aC (sR w a k x) b = cellOf aC w b := fun b h => cell_oth rfl rfl rfl rfl (up2_n _ _ _ h)
theorem rI_oth {aC : Nat → ClassId} {w : Wd} {a : Nat} {x : Nat → Int32} : ∀ b, b ≠ a → cellOf aC (rI w a x) b = cellOf aC w b := fun b h => cell_oth rfl rfl (va_up_ne _ _ h) rfl rfl
theorem rL_oth {aC : Nat → ClassId} {w : Wd} {a : Nat} {x : Nat → Int64} : ∀ b, b ≠ a → cellOf aC (rL w a x) b = cellOf aC w b := fun b h => cell_oth rfl rfl rfl (va_up_ne _ _ h) rfl
theorem fV_sI {w : Wd} {a k t : Nat} {x : Int32} (ht : t = 0 ∨ t = 3) : fV (sI w a k x) a k t = .int x := by
  rcases ht with rfl | rfl <;> (show Value.int (up2 (wI w) a k x a k) = _; rw [up2_s]; simp [va_up])
theorem fV_sI' {w : Wd} {a k : Nat} {x : Int32} : ∀ j u, j ≠ k → fV (sI w a k x) a j u = fV w a j u := by
  intro j u h
  unfold fV
  rw [show wI (sI w a k x) a j = wI w a j by show up2 (wI w) a k x a j = _; rw [up2_s]; simp [va_up, h]]
  rfl
theorem fV_sL {w : Wd} {a k : Nat} {x : Int64} : fV (sL w a k x) a k 1 = .long x := by
  show Value.long (up2 (wL w) a k x a k) = _; rw [up2_s]; simp [va_up]
theorem fV_sL' {w : Wd} {a k : Nat} {x : Int64} : ∀ j u, j ≠ k → fV (sL w a k x) a j u = fV w a j u := by
  intro j u h
  unfold fV
  rw [show wL (sL w a k x) a j = wL w a j by show up2 (wL w) a k x a j = _; rw [up2_s]; simp [va_up, h]]
  rfl
theorem fV_sR {w : Wd} {a k : Nat} {x : Option Nat} : fV (sR w a k x) a k 2 = va_rf x := by
  show va_rf (up2 (wR w) a k x a k) = _; rw [up2_s]; simp [va_up]
theorem fV_sR' {w : Wd} {a k : Nat} {x : Option Nat} : ∀ j u, j ≠ k → fV (sR w a k x) a j u = fV w a j u := by
  intro j u h
  unfold fV
  rw [show wR (sR w a k x) a j = wR w a j by show up2 (wR w) a k x a j = _; rw [up2_s]; simp [va_up, h]]
  rfl
theorem cell_obj {aC : Nat → ClassId} {w : Wd} {a ci : Nat} (ha : wK w a = ci + 1) (hc : ci < 99) : cellOf aC w a = .inr (ci, flds w a (fT ci)) := by
  unfold cellOf
  rw [if_pos (by omega), ha, Nat.add_sub_cancel]
theorem cell_arr {aC : Nat → ClassId} {w : Wd} {a t : Nat} (ha : wK w a = 100 + t) : cellOf aC w a = .inl (aC t, aRow w a t) := by
  unfold cellOf
  rw [if_neg (by omega), ha, Nat.add_sub_cancel_left]
section QR
variable {l : Launch} {D : va_G} {aC : Nat → ClassId} {b0 : Nat} {p : Program} {e : Env} {R : Room} {s : State} {m : MethodId} {args : Array Value} {below : List Frame} {meth : Method} {c : Code} {cc : ByteArray} {own : String} {nL : Nat} {nm : String} {ret : Option FieldType} {w : Wd} {H : Heap} {locs : List Loc} {cells slots : Nat} {Q : State → Prop} {pc : Nat} {ls : Array Slot} {rest : List Value}
theorem q_get (X : Cx D aC p s m args meth c cc own nL nm ret) (M : Mm D aC b0 w H) {a ix ci k t : Nat} (fl : FG own ix ci k t) (ha : wK w a = ci + 1) {v : Value} (hv : fV w a k t = v) (hdg : decode cc pc = .ok (.getfield ix, 3))
    (kk : W p l e R s m args below meth c H locs cells slots Q (F0 m (pc + 3) ls (v :: rest))) : W p l e R s m args below meth c H locs cells slots Q (F0 m pc ls (va_rf (some a) :: rest)) := by
  obtain ⟨hx, hb, -, hown, -, -, -, hts, hK⟩ := X
  obtain ⟨C, T, N, hc, hin, hk, hft, hl, hT, h99⟩ := fl
  subst hv
  exact va_get hx hb hts hin hown hK.1 M.2.2.2 (a - b0) (M.obj ha h99) hc k hk (hts _ hl) (fun x h => by rw [hT] at h; exact h) (flds_get hft) hdg kk
theorem q_putX (X : Cx D aC p s m args meth c cc own nL nm ret) (M : Mm D aC b0 w H) (hS : va_S (Fb b0) s.heap H locs) {a ix ci k t : Nat} {fin : Bool} (fl : FL own ix ci k t fin) (hfin : fin = false ∨ nm = "<init>") (ha : wK w a = ci + 1) {v : Value} (hv : vOk t v) {w' : Wd} (hn : wn w' = wn w) (hk' : wK w' = wK w) (ho : ∀ b, b ≠ a → cellOf aC w' b = cellOf aC w b) (hf : ∀ ts : List Nat, ts[k]? = some t → flds w' a ts = (flds w a ts).set k v) (hdg : decode cc pc = .ok (.putfield ix, 3))
    (kk : ∀ (H1 : Heap) (locs1 : List Loc), Mm D aC b0 w' H1 → va_S (Fb b0) s.heap H1 locs1 → W p l e R s m args below meth c H1 locs1 cells slots Q (F0 m (pc + 3) ls rest)) : W p l e R s m args below meth c H locs cells slots Q (F0 m pc ls (v :: va_rf (some a) :: rest)) := by
  obtain ⟨hx, hb, -, hown, -, hnm, -, hts, hK⟩ := X
  obtain ⟨C, T, N, ty, hc, hin, hty, hne, hk, hft, hl, hT, hvo, hfi, hfo, h99⟩ := fl
  have hlen : k < (flds w a (fT ci)).length := by
    have := (List.getElem?_eq_some_iff.mp (flds_get (w := w) (a := a) hft)).1
    exact this
  have e1 : (a, (Sum.inr (ci, (flds w a (fT ci)).set k v) : va_E)) = (a, cellOf aC w' a) := by
    rw [cell_obj (by rw [hk']; exact ha) h99, hf _ hft]
  have done : ∀ (H1 : Heap) (locs1 : List Loc), H1.size = H.size → va_P D vwCl ((wl aC b0 w).set (a - b0) (a, .inr (ci, (flds w a (fT ci)).set k v))) H1 → va_S (Fb b0) s.heap H1 locs1 → W p l e R s m args below meth c H1 locs1 cells slots Q (F0 m (pc + 3) ls rest) := by
    intro H1 locs1 hz hP hS1
    rw [e1] at hP
    exact kk H1 locs1 (M.upd (by omega) hz hn hk' ho hP) hS1
  have hap := va_apart (own := own) hts hin ty hty hne hK.1 hc
  obtain ⟨r, h1, cell, q1, q2, q3, q4⟩ := M.2.2.2 (a - b0) _ (M.obj ha h99)
  have hr : r = (C, T, N) := Option.some.inj (h1.symm.trans hc)
  subst hr
  obtain ⟨hSl, hfc, kC, hkC, hkind⟩ := hK.1.1 ci _ hc
  obtain ⟨cf, kf, fi, f, hi, hsl⟩ := hSl k hk
  have hlay := hts _ (hin _ (u_in_lay hk))
  unfold u_lay at hlay
  have hst := (u_facts hfc hkC (u_lays hts hin hk) hi).1
  have hi2 : s.fieldFound? C (T k).2.1 (T k).2.2.1 = some (cf, kf, fi, f) := by rw [← hT]; exact hi
  have fin' : ∀ (H' : Heap), H'[a]? = some (cell.setSlot f.slot v) → H'.size = H.size → (∀ q, q ≠ a → H'[q]? = H[q]?) → W p l e R s m args below meth c H' (locs ++ [⟨a, f.slot⟩]) cells slots Q (F0 m (pc + 3) ls rest) := by
    intro H' g1 g2 g3
    rw [hsl] at g1 ⊢
    exact done H' _ g2 (M.2.2.2.set wl_D (M.obj ha h99) ⟨_, hc, t_OB.to (V := updV (vp_V (flds w a (fT ci))) k v) ⟨_, g1, q2, q3, t_set q4 hap hk v⟩ (fun j _ => vp_updV_set hlen v j)⟩ g3) (hS.put g2 g3 ((M.2.2.1 a (by omega)).1))
  by_cases hb2 : fin = true
  · rw [if_pos (by rw [hfi]; exact hb2)] at hlay
    have hCo := hfo hb2
    subst hCo
    have hinit : meth.name = "<init>" := by
      rcases hfin with h | h
      · rw [hb2] at h; cases h
      · rw [hnm]; exact h
    have hcf : m.cls = cf := by
      obtain ⟨_, _, c', _, _, _, -, -, hf', -, -, -, hown2, -⟩ := Cond.laysFinal_spec hlay
      have e1 : c' = cf := by have := hi.symm.trans hf'; simp at this; exact this.1.symm
      rw [hT] at hown2
      rw [← e1]; exact Option.some.inj (hown.symm.trans hown2)
    have h6 := u_fits hfc hkC hkind (Or.inr hlay) hi (hty k hk) (hvo v hv).1 (hvo v hv).2
    exact W.putFinK hx hb hown (hts _ hl) hi2 hst hcf hinit (by rw [q2]; exact h6) q1 q3 (by rw [hsl]; exact k2_hasslot (q4 k hk)) rfl rfl hdg fin'
  · rw [if_neg (by rw [hfi]; exact hb2)] at hlay
    have h6 := u_store hfc hkC hkind hlay hi (hty k hk) (hvo v hv).1 (hvo v hv).2
    exact W.putK hx hb (f := f) ⟨hown, hts _ hl, ⟨_, _, _, hi2⟩, hst⟩ (by rw [q2]; exact h6) q1 q3 (by rw [hsl]; exact k2_hasslot (q4 k hk)) rfl rfl hdg fin'
theorem q_putI (X : Cx D aC p s m args meth c cc own nL nm ret) (M : Mm D aC b0 w H) (hS : va_S (Fb b0) s.heap H locs) {a ix ci k : Nat} {fin : Bool} (fl : FL own ix ci k 0 fin) (hfin : fin = false ∨ nm = "<init>") (ha : wK w a = ci + 1) {x : Int32} (hdg : decode cc pc = .ok (.putfield ix, 3))
    (kk : ∀ (H1 : Heap) (locs1 : List Loc), Mm D aC b0 (sI w a k x) H1 → va_S (Fb b0) s.heap H1 locs1 → W p l e R s m args below meth c H1 locs1 cells slots Q (F0 m (pc + 3) ls rest)) : W p l e R s m args below meth c H locs cells slots Q (F0 m pc ls (.int x :: va_rf (some a) :: rest)) :=
  q_putX (w' := sI w a k x) X M hS fl hfin ha ⟨x, rfl⟩ rfl rfl sI_oth (fun _ h => flds_set h (fV_sI (Or.inl rfl)) fV_sI') hdg kk
theorem q_putZ (X : Cx D aC p s m args meth c cc own nL nm ret) (M : Mm D aC b0 w H) (hS : va_S (Fb b0) s.heap H locs) {a ix ci k : Nat} {fin : Bool} (fl : FL own ix ci k 3 fin) (hfin : fin = false ∨ nm = "<init>") (ha : wK w a = ci + 1) {x : Int32} (hx : x = 0 ∨ x = 1) (hdg : decode cc pc = .ok (.putfield ix, 3))
    (kk : ∀ (H1 : Heap) (locs1 : List Loc), Mm D aC b0 (sI w a k x) H1 → va_S (Fb b0) s.heap H1 locs1 → W p l e R s m args below meth c H1 locs1 cells slots Q (F0 m (pc + 3) ls rest)) : W p l e R s m args below meth c H locs cells slots Q (F0 m pc ls (.int x :: va_rf (some a) :: rest)) :=
  q_putX (w' := sI w a k x) X M hS fl hfin ha (by rcases hx with rfl | rfl; exact Or.inl rfl; exact Or.inr rfl) rfl rfl sI_oth (fun _ h => flds_set h (fV_sI (Or.inr rfl)) fV_sI') hdg kk
theorem q_putL (X : Cx D aC p s m args meth c cc own nL nm ret) (M : Mm D aC b0 w H) (hS : va_S (Fb b0) s.heap H locs) {a ix ci k : Nat} {fin : Bool} (fl : FL own ix ci k 1 fin) (hfin : fin = false ∨ nm = "<init>") (ha : wK w a = ci + 1) {x : Int64} (hdg : decode cc pc = .ok (.putfield ix, 3))
    (kk : ∀ (H1 : Heap) (locs1 : List Loc), Mm D aC b0 (sL w a k x) H1 → va_S (Fb b0) s.heap H1 locs1 → W p l e R s m args below meth c H1 locs1 cells slots Q (F0 m (pc + 3) ls rest)) : W p l e R s m args below meth c H locs cells slots Q (F0 m pc ls (.long x :: va_rf (some a) :: rest)) :=
  q_putX (w' := sL w a k x) X M hS fl hfin ha ⟨x, rfl⟩ rfl rfl sL_oth (fun _ h => flds_set h fV_sL fV_sL') hdg kk
theorem q_putR (X : Cx D aC p s m args meth c cc own nL nm ret) (M : Mm D aC b0 w H) (hS : va_S (Fb b0) s.heap H locs) {a ix ci k : Nat} {fin : Bool} (fl : FL own ix ci k 2 fin) (hfin : fin = false ∨ nm = "<init>") (ha : wK w a = ci + 1) {x : Option Nat} (hdg : decode cc pc = .ok (.putfield ix, 3))
    (kk : ∀ (H1 : Heap) (locs1 : List Loc), Mm D aC b0 (sR w a k x) H1 → va_S (Fb b0) s.heap H1 locs1 → W p l e R s m args below meth c H1 locs1 cells slots Q (F0 m (pc + 3) ls rest)) : W p l e R s m args below meth c H locs cells slots Q (F0 m pc ls (va_rf x :: va_rf (some a) :: rest)) :=
  q_putX (w' := sR w a k x) X M hS fl hfin ha ⟨x, rfl⟩ rfl rfl sR_oth (fun _ h => flds_set h fV_sR fV_sR') hdg kk
end QR
