/-! ROWS: new arrays, references in locals, null tests, calls, ends -/
section QC
variable {l : Launch} {D : va_G} {aC : Nat → ClassId} {b0 : Nat} {p : Program} {e : Env} {R : Room} {s : State} {m : MethodId} {args : Array Value} {below : List Frame} {meth : Method} {c : Code} {cc : ByteArray} {own : String} {nL : Nat} {nm : String} {ret : Option FieldType} {w : Wd} {H : Heap} {locs : List Loc} {cells slots : Nat} {Q : State → Prop} {pc : Nat} {ls : Array Slot} {rest : List Value}
/-- a primitive array's kind -/
def AP (t : Nat) (at_ : ArrayType) : Prop := (t = 0 ∧ at_ = .int) ∨ (t = 1 ∧ at_ = .long) ∨ (t = 2 ∧ at_ = .boolean)
theorem q_newa (X : Cx D aC p s m args meth c cc own nL nm ret) (M : Mm D aC b0 w H) (hS : va_S (Fb b0) s.heap H locs) {t : Nat} {at_ : ArrayType} (hA : AP t at_) (hG : Cond.arrayClass (newarray.typeOf at_) ∈ Gw) {n : Int32} {bd : Nat} (hn : ¬ n < 0) (hbd : n.toNatClampNeg ≤ bd) (hsm : bd ≤ 65536) {MC MS : Nat} (e3 : R.cells = MC) (e4 : R.slots = MS) (hcells : cells + 1 ≤ MC) (hslots : slots + bd ≤ MS) (hdg : decode cc pc = .ok (.newarray at_, 2))
    (kk : ∀ (H1 : Heap), Mm D aC b0 (newC w (100 + t) n.toNatClampNeg) H1 → va_S (Fb b0) s.heap H1 locs → W p l e R s m args below meth c H1 locs (cells + 1) (slots + bd) Q (F0 m (pc + 2) ls (va_rf (some (wn w)) :: rest))) : W p l e R s m args below meth c H locs cells slots Q (F0 m pc ls (.int n :: rest)) := by
  subst e3 e4
  obtain ⟨hx, hb, -, hown, -, -, -, hts, hK⟩ := X
  have hcb : componentBytes (newarray.typeOf at_) ≤ 8 := by rcases hA with ⟨rfl, rfl⟩ | ⟨rfl, rfl⟩ | ⟨rfl, rfl⟩ <;> decide
  refine va_newaK hx hb (hts _ hG) rfl hdg rfl hn rfl (by
    have := Nat.mul_le_mul (Nat.le_trans hbd hsm) hcb
    omega) hcells (by omega) M.1 fun H1 cA e1 z1 o1 hAr hNm => ?_
  rw [← M.1] at e1 z1 o1 ⊢
  refine W.widen (Nat.le_refl _) (show slots + n.toNatClampNeg ≤ slots + bd by omega) ?_
  rw [M.1]
  refine kk H1 (M.push z1 o1 ?_) (newS hS z1 o1)
  rw [cell_arr (t := t) (by show va_up (wK w) (wn w) (100 + t) (wn w) = 100 + t; simp [va_up])]
  have hc : cA = aC t := by
    rcases hA with ⟨rfl, rfl⟩ | ⟨rfl, rfl⟩ | ⟨rfl, rfl⟩
    · exact Option.some.inj (hNm.symm.trans (hK.1.2 0 _ rfl).2)
    · exact Option.some.inj (hNm.symm.trans (hK.1.2 1 _ rfl).2)
    · exact Option.some.inj (hNm.symm.trans (hK.1.2 2 _ rfl).2)
  subst hc
  show H1[wn w]? = some (vp_cell (aC t) _)
  rw [← M.1, e1]
  have hI : wI (newC w (100 + t) n.toNatClampNeg) H.size = fun _ => 0 := by rw [M.1]; show va_up (wI w) (wn w) (fun _ => 0) (wn w) = _; simp [va_up]
  have hL : wL (newC w (100 + t) n.toNatClampNeg) H.size = fun _ => 0 := by rw [M.1]; show va_up (wL w) (wn w) (fun _ => 0) (wn w) = _; simp [va_up]
  have hN : wN (newC w (100 + t) n.toNatClampNeg) H.size = n.toNatClampNeg := by rw [M.1]; show va_up (wN w) (wn w) _ (wn w) = _; simp [va_up]
  rcases hA with ⟨rfl, rfl⟩ | ⟨rfl, rfl⟩ | ⟨rfl, rfl⟩
  · show _ = some (vp_cell (aC 0) (wN _ H.size, .inl (wI _ H.size)))
    rw [hI, hN]; rfl
  · show _ = some (vp_cell (aC 1) (wN _ H.size, .inr (.inl (wL _ H.size))))
    rw [hL, hN]; rfl
  · show _ = some (vp_cell (aC 2) (wN _ H.size, .inl (wI _ H.size)))
    rw [hI, hN]; rfl
theorem q_newq (X : Cx D aC p s m args meth c cc own nL nm ret) (M : Mm D aC b0 w H) (hS : va_S (Fb b0) s.heap H locs) {t ci ix : Nat} {C : String} (hA : AR t C ci) (hG : Cond.classLink own ix C ∈ Gw) {n : Int32} {bd : Nat} (hn : ¬ n < 0) (hbd : n.toNatClampNeg ≤ bd) (hsm : bd ≤ 65536) {MC MS : Nat} (e3 : R.cells = MC) (e4 : R.slots = MS) (hcells : cells + 1 ≤ MC) (hslots : slots + bd ≤ MS) (hdg : decode cc pc = .ok (.anewarray ix, 3))
    (kk : ∀ (H1 : Heap), Mm D aC b0 (newC w (100 + t) n.toNatClampNeg) H1 → va_S (Fb b0) s.heap H1 locs → W p l e R s m args below meth c H1 locs (cells + 1) (slots + bd) Q (F0 m (pc + 3) ls (va_rf (some (wn w)) :: rest))) : W p l e R s m args below meth c H locs cells slots Q (F0 m pc ls (.int n :: rest)) := by
  subst e3 e4
  obtain ⟨hx, hb, -, hown, -, -, -, hts, hK⟩ := X
  have hAO : va_AO C s := by
    rcases hA with ⟨rfl, rfl, rfl⟩ | ⟨rfl, rfl, rfl⟩ | ⟨rfl, rfl, rfl⟩ | ⟨rfl, rfl, rfl⟩
    · exact hK.2.2.2.2.1
    · exact hK.2.2.2.2.2.1
    · exact hK.2.2.2.2.2.2.1
    · exact hK.2.2.2.2.2.2.2
  refine W.anew hx hb hown (hts _ hG) (va_AO.use hAO) rfl hdg rfl hn (by omega) hcells (by omega) fun cA kA comp f1 f2 f3 f4 => ?_
  generalize hH1 : H.push ({ cls := cA, slots := Array.replicate n.toNatClampNeg .null, vm := .none } : Cell) = H1
  have z1 : H1.size = H.size + 1 := by rw [← hH1, Array.size_push]
  have e1 : H1[H.size]? = some (arrV cA n.toNatClampNeg (fun _ => .null)) := by rw [← hH1, Array.getElem?_push_size, ← arrV_new]
  have o1 : ∀ q : Nat, q < H.size → H1[q]? = H[q]? := fun q hq => by rw [← hH1, Array.getElem?_push, if_neg (Nat.ne_of_lt hq)]
  refine W.widen (Nat.le_refl _) (show slots + n.toNatClampNeg ≤ slots + bd by omega) ?_
  rw [M.1]
  refine kk H1 (M.push z1 o1 ?_) (newS hS z1 o1)
  rw [cell_arr (t := t) (by show va_up (wK w) (wn w) (100 + t) (wn w) = 100 + t; simp [va_up]), hA.row]
  have hc : cA = aC t := by
    obtain ⟨kA', comp', -, -, -, k4⟩ := (hK.1.2 t _ hA.ty).2
    exact Option.some.inj (f1.symm.trans k4)
  subst hc
  show H1[wn w]? = some (vp_cell (aC t) _)
  rw [← M.1, e1]
  have hR : wR (newC w (100 + t) n.toNatClampNeg) H.size = fun _ => none := by rw [M.1]; show va_up (wR w) (wn w) (fun _ => none) (wn w) = _; simp [va_up]
  have hN : wN (newC w (100 + t) n.toNatClampNeg) H.size = n.toNatClampNeg := by rw [M.1]; show va_up (wN w) (wn w) _ (wn w) = _; simp [va_up]
  rw [hR, hN]; rfl
theorem q_aload_n (X : Cx D aC p s m args meth c cc own nL nm ret) {k : Fin 4} {i : Nat} {r : Option Nat} (hdg : decode cc pc = .ok (.aload_n k, 1)) (hi : (k : Nat) = i) (hl : ls[i]? = some (.val (va_rf r)))
    (kk : W p l e R s m args below meth c H locs cells slots Q (F0 m (pc + 1) ls (va_rf r :: rest))) : W p l e R s m args below meth c H locs cells slots Q (F0 m pc ls rest) := by
  cases r with
  | none => exact lv_aload_nN X.1 X.2.1 hdg hi hl kk
  | some a => exact lv_aload_n X.1 X.2.1 hdg hi hl kk
theorem q_aload (X : Cx D aC p s m args meth c cc own nL nm ret) {i : Nat} {r : Option Nat} (hdg : decode cc pc = .ok (.aload i, 2)) (hl : ls[i]? = some (.val (va_rf r)))
    (kk : W p l e R s m args below meth c H locs cells slots Q (F0 m (pc + 2) ls (va_rf r :: rest))) : W p l e R s m args below meth c H locs cells slots Q (F0 m pc ls rest) := by
  cases r with
  | none => exact lv_aloadN X.1 X.2.1 hdg hl kk
  | some a => exact lv_aload X.1 X.2.1 hdg hl kk
theorem q_astore_n (X : Cx D aC p s m args meth c cc own nL nm ret) {k : Fin 4} {i : Nat} {r : Option Nat} {lv lv' : List (Nat × Value)} (hdg : decode cc pc = .ok (.astore_n k, 1)) (hi : (k : Nat) = i) (h : lv_has ls nL lv) (hn : i < nL) (hl : (i, va_rf r) :: lv.filter (fun q => !(q.1 == i) && !(q.1 + 1 == i && q.2.category == 2)) = lv')
    (kk : ∀ ls' : Array Slot, lv_has ls' nL lv' → W p l e R s m args below meth c H locs cells slots Q (F0 m (pc + 1) ls' rest)) : W p l e R s m args below meth c H locs cells slots Q (F0 m pc ls (va_rf r :: rest)) := by
  cases r with
  | none => exact lv_astore_nN X.1 X.2.1 hdg hi h hn hl kk
  | some a => exact lv_astore_n X.1 X.2.1 hdg hi h hn hl kk
theorem q_astore (X : Cx D aC p s m args meth c cc own nL nm ret) {i : Nat} {r : Option Nat} {lv lv' : List (Nat × Value)} (hdg : decode cc pc = .ok (.astore i, 2)) (h : lv_has ls nL lv) (hn : i < nL) (hl : (i, va_rf r) :: lv.filter (fun q => !(q.1 == i) && !(q.1 + 1 == i && q.2.category == 2)) = lv')
    (kk : ∀ ls' : Array Slot, lv_has ls' nL lv' → W p l e R s m args below meth c H locs cells slots Q (F0 m (pc + 2) ls' rest)) : W p l e R s m args below meth c H locs cells slots Q (F0 m pc ls (va_rf r :: rest)) := by
  cases r with
  | none => exact lv_astoreN X.1 X.2.1 hdg h hn hl kk
  | some a => exact lv_astore X.1 X.2.1 hdg h hn hl kk
theorem q_null (X : Cx D aC p s m args meth c cc own nL nm ret) (hdg : decode cc pc = .ok (.aconst_null, 1)) (kk : W p l e R s m args below meth c H locs cells slots Q (F0 m (pc + 1) ls (va_rf none :: rest))) : W p l e R s m args below meth c H locs cells slots Q (F0 m pc ls rest) := lv_null X.1 X.2.1 hdg kk
theorem q_ifnull (X : Cx D aC p s m args meth c cc own nL nm ret) {r : Option Nat} {off : Int} {tgt : Nat} (hdg : decode cc pc = .ok (.ifnull off, 3)) (ht : (pc : Int) + off = (tgt : Int))
    (kt : r = none → W p l e R s m args below meth c H locs cells slots Q (F0 m tgt ls rest)) (kf : ¬ r = none → W p l e R s m args below meth c H locs cells slots Q (F0 m (pc + 3) ls rest)) : W p l e R s m args below meth c H locs cells slots Q (F0 m pc ls (va_rf r :: rest)) := by
  cases r with
  | none => exact lv_ifnullN X.1 X.2.1 hdg ht (kt rfl)
  | some a => exact lv_ifnull X.1 X.2.1 hdg (kf (fun h => by cases h))
theorem q_ifnonnull (X : Cx D aC p s m args meth c cc own nL nm ret) {r : Option Nat} {off : Int} {tgt : Nat} (hdg : decode cc pc = .ok (.ifnonnull off, 3)) (ht : (pc : Int) + off = (tgt : Int))
    (kt : ¬ r = none → W p l e R s m args below meth c H locs cells slots Q (F0 m tgt ls rest)) (kf : r = none → W p l e R s m args below meth c H locs cells slots Q (F0 m (pc + 3) ls rest)) : W p l e R s m args below meth c H locs cells slots Q (F0 m pc ls (va_rf r :: rest)) := by
  cases r with
  | none => exact lv_ifnonnullN X.1 X.2.1 hdg (kf rfl)
  | some a => exact lv_ifnonnull X.1 X.2.1 hdg ht (kt (fun h => by cases h))
-- ends
theorem q_iret (X : Cx D aC p s m args meth c cc own nL nm (some .int)) (M : Mm D aC b0 w H) (hS : va_S (Fb b0) s.heap H locs) {mc ms : Nat} (hc : cells ≤ mc) (hs : slots ≤ ms) {x : Int32} (hdg : decode cc pc = .ok (.ireturn, 1)) : W p l e R s m args below meth c H locs cells slots (MQ below (Qr D aC b0 (some (.int x)) w) args s mc ms (Fb b0)) (F0 m pc ls [.int x]) := by
  obtain ⟨hx, hb, -, hown, hlk, -, hr, hts, hK⟩ := X
  exact W.widen hc hs (W.iret hx hb hr (fun t ht hW => ⟨⟨rfl, by rw [ht]; exact M⟩, hS.F ht⟩) hS.2.2 hdg)
theorem q_zret (X : Cx D aC p s m args meth c cc own nL nm (some .boolean)) (M : Mm D aC b0 w H) (hS : va_S (Fb b0) s.heap H locs) {mc ms : Nat} (hc : cells ≤ mc) (hs : slots ≤ ms) {x : Int32} (hx01 : x = 0 ∨ x = 1) (hdg : decode cc pc = .ok (.ireturn, 1)) : W p l e R s m args below meth c H locs cells slots (MQ below (Qr D aC b0 (some (.int x)) w) args s mc ms (Fb b0)) (F0 m pc ls [.int x]) := by
  obtain ⟨hx, hb, -, hown, hlk, -, hr, hts, hK⟩ := X
  exact W.widen hc hs (W.zret hx hb hr (by rcases hx01 with rfl | rfl <;> decide +kernel) (fun t ht hW => ⟨⟨rfl, by rw [ht]; exact M⟩, hS.F ht⟩) hS.2.2 hdg)
theorem q_lret (X : Cx D aC p s m args meth c cc own nL nm (some .long)) (M : Mm D aC b0 w H) (hS : va_S (Fb b0) s.heap H locs) {mc ms : Nat} (hc : cells ≤ mc) (hs : slots ≤ ms) {x : Int64} (hdg : decode cc pc = .ok (.lreturn, 1)) : W p l e R s m args below meth c H locs cells slots (MQ below (Qr D aC b0 (some (.long x)) w) args s mc ms (Fb b0)) (F0 m pc ls [.long x]) := by
  obtain ⟨hx, hb, -, hown, hlk, -, hr, hts, hK⟩ := X
  exact W.widen hc hs (W.lret hx hb hr (fun t ht hW => ⟨⟨rfl, by rw [ht]; exact M⟩, hS.F ht⟩) hS.2.2 hdg)
theorem q_vret (X : Cx D aC p s m args meth c cc own nL nm none) (M : Mm D aC b0 w H) (hS : va_S (Fb b0) s.heap H locs) {mc ms : Nat} (hc : cells ≤ mc) (hs : slots ≤ ms) (hdg : decode cc pc = .ok (.return_, 1)) : W p l e R s m args below meth c H locs cells slots (MQ below (Qr D aC b0 none w) args s mc ms (Fb b0)) (F0 m pc ls []) := by
  obtain ⟨hx, hb, -, hown, hlk, -, hr, hts, hK⟩ := X
  exact W.widen hc hs (W.vret hx hb hr (fun t ht hW => ⟨⟨rfl, by rw [ht]; exact M⟩, hS.F ht⟩) hS.2.2 hdg)
theorem q_aret {C : String} (X : Cx D aC p s m args meth c cc own nL nm (some (.object C))) (M : Mm D aC b0 w H) (hS : va_S (Fb b0) s.heap H locs) {mc ms : Nat} (hc : cells ≤ mc) (hs : slots ≤ ms) {x : Option Nat} (hdg : decode cc pc = .ok (.areturn, 1)) : W p l e R s m args below meth c H locs cells slots (MQ below (Qr D aC b0 (some (va_rf x)) w) args s mc ms (Fb b0)) (F0 m pc ls [va_rf x]) := by
  obtain ⟨hx, hb, -, hown, hlk, -, hr, hts, hK⟩ := X
  exact W.widen hc hs (W.aret hx hb hr (Or.inl ⟨_, rfl⟩) (by cases x; exact Or.inl rfl; exact Or.inr ⟨_, rfl⟩) (fun t ht hW => ⟨⟨rfl, by rw [ht]; exact M⟩, hS.F ht⟩) hS.2.2 hdg)
end QC
