/-! ROWS: arrays, new cells, calls, ends -/
section QA
variable {l : Launch} {D : va_G} {aC : Nat → ClassId} {b0 : Nat} {p : Program} {e : Env} {R : Room} {s : State} {m : MethodId} {args : Array Value} {below : List Frame} {meth : Method} {c : Code} {cc : ByteArray} {own : String} {nL : Nat} {nm : String} {ret : Option FieldType} {w : Wd} {H : Heap} {locs : List Loc} {cells slots : Nat} {Q : State → Prop} {pc : Nat} {ls : Array Slot} {rest : List Value}
theorem q_iald (X : Cx D aC p s m args meth c cc own nL nm ret) (M : Mm D aC b0 w H) {a : Nat} (ha : wK w a = 100) {i : Int32} (hin : vp_in i (wN w a)) (hdg : decode cc pc = .ok (.iaload, 1))
    (kk : W p l e R s m args below meth c H locs cells slots Q (F0 m (pc + 1) ls (.int (wI w a i.toNatClampNeg) :: rest))) : W p l e R s m args below meth c H locs cells slots Q (F0 m pc ls (.int i :: va_rf (some a) :: rest)) :=
  va_iald X.1 X.2.1 X.2.2.2.2.2.2.2.2.1 M.2.2.2 (a - b0) 0 (M.arr (t := 0) ha) rfl hin hdg kk
theorem q_lald (X : Cx D aC p s m args meth c cc own nL nm ret) (M : Mm D aC b0 w H) {a : Nat} (ha : wK w a = 101) {i : Int32} (hin : vp_in i (wN w a)) (hdg : decode cc pc = .ok (.laload, 1))
    (kk : W p l e R s m args below meth c H locs cells slots Q (F0 m (pc + 1) ls (.long (wL w a i.toNatClampNeg) :: rest))) : W p l e R s m args below meth c H locs cells slots Q (F0 m pc ls (.int i :: va_rf (some a) :: rest)) :=
  va_lald X.1 X.2.1 X.2.2.2.2.2.2.2.2.1 M.2.2.2 (a - b0) 1 (M.arr (t := 1) ha) rfl hin hdg kk
theorem q_zald (X : Cx D aC p s m args meth c cc own nL nm ret) (M : Mm D aC b0 w H) {a : Nat} (ha : wK w a = 102) {i : Int32} (hin : vp_in i (wN w a)) (hdg : decode cc pc = .ok (.baload, 1))
    (kk : W p l e R s m args below meth c H locs cells slots Q (F0 m (pc + 1) ls (.int (wI w a i.toNatClampNeg) :: rest))) : W p l e R s m args below meth c H locs cells slots Q (F0 m pc ls (.int i :: va_rf (some a) :: rest)) :=
  va_zald X.1 X.2.1 X.2.2.2.2.2.2.2.2.1 M.2.2.2 (a - b0) 2 (M.arr (t := 2) ha) rfl hin hdg kk
/-- an array of references, its kind t, its element's class -/
def AR (t : Nat) (C : String) (ci : Nat) : Prop := (t = 3 ∧ C = RX0 ∧ ci = 0) ∨ (t = 4 ∧ C = RX1 ∧ ci = 1) ∨ (t = 5 ∧ C = RX2 ∧ ci = 2) ∨ (t = 6 ∧ C = RX4 ∧ ci = 4)
theorem AR.ty {t : Nat} {C : String} {ci : Nat} (h : AR t C ci) : (tyL aC)[t]? = some (aC t, .object C) := by
  rcases h with ⟨rfl, rfl, rfl⟩ | ⟨rfl, rfl, rfl⟩ | ⟨rfl, rfl, rfl⟩ | ⟨rfl, rfl, rfl⟩ <;> rfl
theorem AR.row {t : Nat} {C : String} {ci : Nat} (h : AR t C ci) (w : Wd) (a : Nat) : aRow w a t = (wN w a, .inr (.inr (.inr (.inr (wR w a))))) := by
  rcases h with ⟨rfl, rfl, rfl⟩ | ⟨rfl, rfl, rfl⟩ | ⟨rfl, rfl, rfl⟩ | ⟨rfl, rfl, rfl⟩ <;> rfl
theorem AR.cl {t : Nat} {C : String} {ci : Nat} (h : AR t C ci) : ∃ r : vw_C, vwCl[ci]? = some r ∧ r.1 = C ∧ ci < 99 := by
  rcases h with ⟨rfl, rfl, rfl⟩ | ⟨rfl, rfl, rfl⟩ | ⟨rfl, rfl, rfl⟩ | ⟨rfl, rfl, rfl⟩ <;> exact ⟨_, rfl, rfl, by decide⟩
theorem q_aald (X : Cx D aC p s m args meth c cc own nL nm ret) (M : Mm D aC b0 w H) {a t ci : Nat} {C : String} (hA : AR t C ci) (ha : wK w a = 100 + t) {i : Int32} (hin : vp_in i (wN w a)) (hdg : decode cc pc = .ok (.aaload, 1))
    (kk : W p l e R s m args below meth c H locs cells slots Q (F0 m (pc + 1) ls (va_rf (wR w a i.toNatClampNeg) :: rest))) : W p l e R s m args below meth c H locs cells slots Q (F0 m pc ls (.int i :: va_rf (some a) :: rest)) :=
  va_aldq X.1 X.2.1 X.2.2.2.2.2.2.2.2.1 M.2.2.2 (a - b0) t (by rw [M.arr ha, hA.row]) hA.ty hin hdg kk
theorem q_alen (X : Cx D aC p s m args meth c cc own nL nm ret) (M : Mm D aC b0 w H) {a t : Nat} (ht : t < 7) (ha : wK w a = 100 + t) (hdg : decode cc pc = .ok (.arraylength, 1))
    (kk : W p l e R s m args below meth c H locs cells slots Q (F0 m (pc + 1) ls (.int (nI (wN w a)) :: rest))) : W p l e R s m args below meth c H locs cells slots Q (F0 m pc ls (va_rf (some a) :: rest)) := by
  have hr : Int32.ofNat (aRow w a t).1 = nI (wN w a) := by
    unfold aRow
    split <;> rfl
  obtain ⟨q, hq⟩ : ∃ q, (tyL aC)[t]? = some (aC t, q) := by
    match t, ht with
    | 0, _ => exact ⟨_, rfl⟩
    | 1, _ => exact ⟨_, rfl⟩
    | 2, _ => exact ⟨_, rfl⟩
    | 3, _ => exact ⟨_, rfl⟩
    | 4, _ => exact ⟨_, rfl⟩
    | 5, _ => exact ⟨_, rfl⟩
    | 6, _ => exact ⟨_, rfl⟩
  exact va_alen X.1 X.2.1 X.2.2.2.2.2.2.2.2.1 M.2.2.2 (a - b0) t (M.arr ha) hq hr hdg kk
theorem upd_up (f : Nat → Int32) (k : Nat) (x : Int32) : upd f k x = va_up f k x := by
  funext j
  by_cases h : j = k
  · subst h; rw [pk_us]; simp [va_up]
  · rw [pk_un h]; simp [va_up, h]
theorem updL_up (f : Nat → Int64) (k : Nat) (x : Int64) : vp_updL f k x = va_up f k x := by
  funext j
  by_cases h : j = k
  · subst h; rw [pk_uLs]; simp [va_up]
  · rw [pk_uLn h]; simp [va_up, h]
theorem sI_row (w : Wd) (a k : Nat) (x : Int32) : wI (sI w a k x) a = va_up (wI w a) k x := up2_s _ _ _ _
theorem sL_row (w : Wd) (a k : Nat) (x : Int64) : wL (sL w a k x) a = va_up (wL w a) k x := up2_s _ _ _ _
theorem sR_row (w : Wd) (a k : Nat) (x : Option Nat) : wR (sR w a k x) a = va_up (wR w a) k x := up2_s _ _ _ _
/-- behind a store in an array of the world -/
theorem Mm.ast {H1 : Heap} {w' : Wd} {a t : Nat} (M : Mm D aC b0 w H) (ha : wK w a = 100 + t) (z : H1.size = H.size) (oq : ∀ q, q ≠ a → H1[q]? = H[q]?) (hn : wn w' = wn w) (hk : wK w' = wK w) (ho : ∀ b, b ≠ a → cellOf aC w' b = cellOf aC w b) (e : H1[a]? = some (vp_cell (aC t) (aRow w' a t))) : Mm D aC b0 w' H1 := by
  refine M.upd (a := a) (by omega) z hn hk ho (M.2.2.2.set wl_D (M.arr ha) ?_ oq)
  rw [cell_arr (t := t) (by rw [hk]; exact ha)]
  exact e
theorem q_iast (X : Cx D aC p s m args meth c cc own nL nm ret) (M : Mm D aC b0 w H) (hS : va_S (Fb b0) s.heap H locs) {a : Nat} (ha : wK w a = 100) {i x : Int32} (hin : vp_in i (wN w a)) (hdg : decode cc pc = .ok (.iastore, 1))
    (kk : ∀ (H1 : Heap) (locs1 : List Loc), Mm D aC b0 (sI w a i.toNatClampNeg x) H1 → va_S (Fb b0) s.heap H1 locs1 → W p l e R s m args below meth c H1 locs1 cells slots Q (F0 m (pc + 1) ls rest)) : W p l e R s m args below meth c H locs cells slots Q (F0 m pc ls (.int x :: .int i :: va_rf (some a) :: rest)) := by
  refine W.iast X.1 X.2.1 (M.2.2.2 _ _ (M.arr (t := 0) ha)) ((X.2.2.2.2.2.2.2.2.1.2 0 _ rfl).1 (wN w a) (fun j => .int (wI w a j))) (fun q => by cases q) (by show ¬ (i < 0 ∨ (arrV _ _ _).slots.size ≤ _); rw [arrV_size]; exact hin) rfl rfl hdg fun H1 e1 z oq => ?_
  refine kk H1 _ (M.ast (t := 0) ha z oq rfl rfl sI_oth ?_) (hS.put z oq (M.2.2.1 a (by omega)).1)
  rw [e1]
  show some ((arrV (aC 0) (wN w a) (fun j => .int (wI w a j))).setSlot _ _) = some (arrV (aC 0) (wN w a) (fun j => .int (wI (sI w a i.toNatClampNeg x) a j)))
  rw [sI_row, arrV_store]
  congr 2
  funext q
  by_cases h : q = i.toNatClampNeg <;> simp [updV, va_up, h]
theorem q_zast (X : Cx D aC p s m args meth c cc own nL nm ret) (M : Mm D aC b0 w H) (hS : va_S (Fb b0) s.heap H locs) {a : Nat} (ha : wK w a = 102) {i x : Int32} (hx : x = 0 ∨ x = 1) (hin : vp_in i (wN w a)) (hdg : decode cc pc = .ok (.bastore, 1))
    (kk : ∀ (H1 : Heap) (locs1 : List Loc), Mm D aC b0 (sI w a i.toNatClampNeg x) H1 → va_S (Fb b0) s.heap H1 locs1 → W p l e R s m args below meth c H1 locs1 cells slots Q (F0 m (pc + 1) ls rest)) : W p l e R s m args below meth c H locs cells slots Q (F0 m pc ls (.int x :: .int i :: va_rf (some a) :: rest)) := by
  refine W.zast X.1 X.2.1 (M.2.2.2 _ _ (M.arr (t := 2) ha)) ((X.2.2.2.2.2.2.2.2.1.2 2 _ rfl).1 (wN w a) (fun j => .int (wI w a j))) (fun q => by cases q) (by show ¬ (i < 0 ∨ (arrV _ _ _).slots.size ≤ _); rw [arrV_size]; exact hin) rfl rfl hdg fun H1 e1 z oq => ?_
  refine kk H1 _ (M.ast (t := 2) ha z oq rfl rfl sI_oth ?_) (hS.put z oq (M.2.2.1 a (by omega)).1)
  rw [e1, show narrow .boolean (.int x) = .int x by rcases hx with rfl | rfl <;> decide +kernel]
  show some ((arrV (aC 2) (wN w a) (fun j => .int (wI w a j))).setSlot _ _) = some (arrV (aC 2) (wN w a) (fun j => .int (wI (sI w a i.toNatClampNeg x) a j)))
  rw [sI_row, arrV_store]
  congr 2
  funext q
  by_cases h : q = i.toNatClampNeg <;> simp [updV, va_up, h]
theorem q_last (X : Cx D aC p s m args meth c cc own nL nm ret) (M : Mm D aC b0 w H) (hS : va_S (Fb b0) s.heap H locs) {a : Nat} (ha : wK w a = 101) {i : Int32} {x : Int64} (hin : vp_in i (wN w a)) (hdg : decode cc pc = .ok (.lastore, 1))
    (kk : ∀ (H1 : Heap) (locs1 : List Loc), Mm D aC b0 (sL w a i.toNatClampNeg x) H1 → va_S (Fb b0) s.heap H1 locs1 → W p l e R s m args below meth c H1 locs1 cells slots Q (F0 m (pc + 1) ls rest)) : W p l e R s m args below meth c H locs cells slots Q (F0 m pc ls (.long x :: .int i :: va_rf (some a) :: rest)) := by
  refine W.last X.1 X.2.1 (M.2.2.2 _ _ (M.arr (t := 1) ha)) ((X.2.2.2.2.2.2.2.2.1.2 1 _ rfl).1 (wN w a) (fun j => .long (wL w a j))) (fun q => by cases q) (by show ¬ (i < 0 ∨ (arrV _ _ _).slots.size ≤ _); rw [arrV_size]; exact hin) rfl rfl hdg fun H1 e1 z oq => ?_
  refine kk H1 _ (M.ast (t := 1) ha z oq rfl rfl sL_oth ?_) (hS.put z oq (M.2.2.1 a (by omega)).1)
  rw [e1]
  show some ((arrV (aC 1) (wN w a) (fun j => .long (wL w a j))).setSlot _ _) = some (arrV (aC 1) (wN w a) (fun j => .long (wL (sL w a i.toNatClampNeg x) a j)))
  rw [sL_row, arrV_store]
  congr 2
  funext q
  by_cases h : q = i.toNatClampNeg <;> simp [updV, va_up, h]
/-- null, or a cell of that kind -/
def okr (w : Wd) (r : Option Nat) (kd : Nat) : Prop := r = none ∨ ∃ v, r = some v ∧ wK w v = kd
theorem q_aast (X : Cx D aC p s m args meth c cc own nL nm ret) (M : Mm D aC b0 w H) (hS : va_S (Fb b0) s.heap H locs) {a t ci : Nat} {C : String} (hA : AR t C ci) (ha : wK w a = 100 + t) {i : Int32} {x : Option Nat} (hx : okr w x (ci + 1)) (hin : vp_in i (wN w a)) (hdg : decode cc pc = .ok (.aastore, 1))
    (kk : ∀ (H1 : Heap) (locs1 : List Loc), Mm D aC b0 (sR w a i.toNatClampNeg x) H1 → va_S (Fb b0) s.heap H1 locs1 → W p l e R s m args below meth c H1 locs1 cells slots Q (F0 m (pc + 1) ls rest)) : W p l e R s m args below meth c H locs cells slots Q (F0 m pc ls (va_rf x :: .int i :: va_rf (some a) :: rest)) := by
  have hlt : i.toNatClampNeg < wN w a := Nat.not_le.mp fun q => hin (Or.inr q)
  have h0 : ¬ i < 0 := fun q => hin (Or.inl q)
  have hcell : H[a]? = some (arrV (aC t) (wN w a) (fun j => va_rf (wR w a j))) := by
    have h1 := M.2.2.2 _ _ (M.arr ha)
    rw [hA.row] at h1
    exact h1
  have key : ∀ H1 : Heap, H1[a]? = some ((arrV (aC t) (wN w a) (fun j => va_rf (wR w a j))).setSlot i.toNatClampNeg (va_rf x)) → H1.size = H.size → (∀ q, q ≠ a → H1[q]? = H[q]?) → Mm D aC b0 (sR w a i.toNatClampNeg x) H1 := by
    intro H1 e1 z oq
    refine M.ast ha z oq rfl rfl sR_oth ?_
    rw [e1, hA.row]
    show some _ = some (arrV (aC t) (wN w a) (fun j => va_rf (wR (sR w a i.toNatClampNeg x) a j)))
    rw [sR_row, arrV_store]
    congr 2
    funext q
    by_cases h : q = i.toNatClampNeg <;> simp [updV, va_up, h]
  have hArr : s.isArrayOf (arrV (aC t) (wN w a) (fun j => va_rf (wR w a j))) (.object C) := (X.2.2.2.2.2.2.2.2.1.2 t _ hA.ty).1 (wN w a) (fun j => va_rf (wR w a j))
  rcases hx with rfl | ⟨v, rfl, hv⟩
  · exact va_WaastN (C := C) X.1 X.2.1 hcell hArr (fun h => by cases h) (by show ¬ (i < 0 ∨ (arrV _ _ _).slots.size ≤ _); rw [arrV_size]; exact hin) rfl rfl hdg fun H1 e1 z oq => kk H1 _ (key H1 e1 z oq) (hS.put z oq (M.2.2.1 a (by omega)).1)
  · obtain ⟨r, hr, hr1, h99⟩ := hA.cl
    subst hr1
    obtain ⟨r', hr', cellV, g1, g2, g3, -⟩ := M.2.2.2 _ _ (M.obj hv h99)
    have hcls := (X.2.2.2.2.2.2.2.2.1.1 ci r hr).2
    obtain ⟨kA, comp, k1, k2, k3, -⟩ := (X.2.2.2.2.2.2.2.2.1.2 t _ hA.ty).2
    have hcomp : comp = D.1 ci := Option.some.inj (k3.symm.trans hcls.1)
    subst hcomp
    have hcls' := hcls
    obtain ⟨kC, hkC, -⟩ := hcls.2
    exact W.aast X.1 X.2.1 hcell (fun q h => by cases h) (fun h => by cases h) k1 k2 rfl hkC ⟨h0, by show _ < (arrV _ _ _).slots.size; rw [arrV_size]; exact hlt⟩ g1 (fun q h => by rw [g3] at h; cases h) (by rw [g2]; exact hkC) (by rw [g2]; exact va_assign hcls') rfl rfl hdg fun H1 e1 z oq => kk H1 _ (key H1 e1 z oq) (hS.put z oq (M.2.2.1 a (by omega)).1)
/-- behind a new cell -/
theorem Mm.push {H1 : Heap} {kd n : Nat} (M : Mm D aC b0 w H) (z : H1.size = H.size + 1) (o1 : ∀ q, q < H.size → H1[q]? = H[q]?) (he : va_at D vwCl (wn w, cellOf aC (newC w kd n) (wn w)) H1) : Mm D aC b0 (newC w kd n) H1 := by
  have hn : wn (newC w kd n) = wn w + 1 := rfl
  refine ⟨by rw [z, hn, M.1], by rw [hn]; exact Nat.le_succ_of_le M.2.1, fun a ha => ?_, ?_⟩
  · by_cases h : a = wn w
    · subst h; rw [hn]; exact ⟨M.2.1, Nat.lt_succ_self _⟩
    · have h2 : wK (newC w kd n) a = wK w a := va_up_ne _ _ h
      rw [h2] at ha
      obtain ⟨h3, h4⟩ := M.2.2.1 a ha
      rw [hn]; exact ⟨h3, Nat.lt_succ_of_lt h4⟩
  · rw [← wl_push M.2.1 hn (fun b hb => cell_oth (va_up_ne _ _ (Nat.ne_of_lt hb)) (va_up_ne _ _ (Nat.ne_of_lt hb)) (va_up_ne _ _ (Nat.ne_of_lt hb)) (va_up_ne _ _ (Nat.ne_of_lt hb)) (va_up_ne _ _ (Nat.ne_of_lt hb)))]
    refine va_P.app (M.2.2.2.kept fun k x hx => o1 x.1 ((M.2.2.2 k x hx).lt)) (fun k x hx => ?_)
    have hz : k < 1 := (List.getElem?_eq_some_iff.mp hx).1
    rw [show k = 0 by omega] at hx
    cases hx
    exact he
theorem newS {H1 : Heap} (hS : va_S (Fb b0) s.heap H locs) (z : H1.size = H.size + 1) (o1 : ∀ q, q < H.size → H1[q]? = H[q]?) : va_S (Fb b0) s.heap H1 locs :=
  ⟨Nat.le_trans hS.1 (by omega), fun x h1 h2 => (o1 x (Nat.lt_of_lt_of_le h1 hS.1)).trans (hS.2.1 x h1 h2), hS.2.2⟩
/-- a class that 'own' names by its entry ix -/
def CL (own : String) (ix ci N : Nat) : Prop := ∃ (C : String) (T : u_T) (ty : Nat → FieldType), vwCl[ci]? = some (C, T, N) ∧ (∀ w ∈ u_ws C T N, w ∈ Gw) ∧ (∀ k, k < N → parseFieldDescriptor (T k).2.2.1 = some (ty k)) ∧ Cond.classLink own ix C ∈ Gw ∧ Cond.instantiable C N ∈ Gw ∧ Cond.initialized C ∈ Gw ∧ (∀ j, j < N → defaultValue (ty j) = vp_V ((fT ci).map (fun t => match t with | 1 => Value.long 0 | 2 => Value.null | _ => Value.int 0)) j) ∧ ci < 99
theorem q_new (X : Cx D aC p s m args meth c cc own nL nm ret) (M : Mm D aC b0 w H) (hS : va_S (Fb b0) s.heap H locs) {ix ci N : Nat} (hC : CL own ix ci N) {MC MS : Nat} (e3 : R.cells = MC) (e4 : R.slots = MS) (hcells : cells + 1 ≤ MC) (hslots : slots + N ≤ MS) (hdg : decode cc pc = .ok (.new ix, 3))
    (kk : ∀ (H1 : Heap), Mm D aC b0 (newC w (ci + 1) 0) H1 → va_S (Fb b0) s.heap H1 locs → W p l e R s m args below meth c H1 locs (cells + 1) (slots + N) Q (F0 m (pc + 3) ls (va_rf (some (wn w)) :: rest))) : W p l e R s m args below meth c H locs cells slots Q (F0 m pc ls rest) := by
  subst e3 e4
  obtain ⟨hx, hb, -, hown, -, -, -, hts, hK⟩ := X
  obtain ⟨C, T, ty, hc, hin, hty, h1, h2, h3, hd, h99⟩ := hC
  have hKn := hK.1.1 ci _ hc
  refine W.newcK hx hb hown (hts _ h1) (hts _ h2) (hts _ h3) rfl hdg hcells hslots hKn.2.1 M.1 fun H1 kC hkC e1 z1 o1 => ?_
  rw [← M.1] at e1 z1 o1
  refine kk H1 (M.push z1 o1 ?_) (newS hS z1 o1)
  rw [cell_obj (ci := ci) (by show va_up (wK w) (wn w) (ci + 1) (wn w) = ci + 1; simp [va_up]) h99]
  refine ⟨_, hc, ?_⟩
  rw [← M.1]
  refine (u_born ty hts hin hKn hkC e1 hty).to (fun j hj => ?_)
  rw [hd j hj]
  unfold vp_V
  rw [List.getD_eq_getElem?_getD, List.getD_eq_getElem?_getD, List.getElem?_map]
  cases ht : (fT ci)[j]? with
  | none =>
    rw [List.getElem?_eq_none]
    · rfl
    · unfold flds; rw [List.length_mapIdx]; exact List.getElem?_eq_none_iff.mp ht
  | some t =>
    rw [flds_get ht]
    have hI : wI (newC w (ci + 1) 0) H.size j = 0 := by rw [M.1]; show va_up (wI w) (wn w) (fun _ => 0) (wn w) j = 0; simp [va_up]
    have hL : wL (newC w (ci + 1) 0) H.size j = 0 := by rw [M.1]; show va_up (wL w) (wn w) (fun _ => 0) (wn w) j = 0; simp [va_up]
    have hR : wR (newC w (ci + 1) 0) H.size j = none := by rw [M.1]; show va_up (wR w) (wn w) (fun _ => none) (wn w) j = none; simp [va_up]
    simp only [Option.map_some, Option.getD_some]
    unfold fV
    rw [hI, hL, hR]
    rcases t with _ | _ | _ | n <;> rfl
end QA
