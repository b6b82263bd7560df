/-! THE WORLD AS FUNCTIONS: every cell made since the law began, by its address: its kind (0 none; class number + 1; 100 + array kind), its length, its ints, longs, references by slot; the next address. -/
abbrev Wd : Type := Nat × (Nat → Nat) × (Nat → Nat) × (Nat → Nat → Int32) × (Nat → Nat → Int64) × (Nat → Nat → Option Nat)
def wn (w : Wd) : Nat := w.1
def wK (w : Wd) : Nat → Nat := w.2.1
def wN (w : Wd) : Nat → Nat := w.2.2.1
def wI (w : Wd) : Nat → Nat → Int32 := w.2.2.2.1
def wL (w : Wd) : Nat → Nat → Int64 := w.2.2.2.2.1
def wR (w : Wd) : Nat → Nat → Option Nat := w.2.2.2.2.2
def up2 {α : Type} (f : Nat → Nat → α) (a k : Nat) (v : α) : Nat → Nat → α := va_up f a (va_up (f a) k v)
def sI (w : Wd) (a k : Nat) (v : Int32) : Wd := (wn w, wK w, wN w, up2 (wI w) a k v, wL w, wR w)
def sL (w : Wd) (a k : Nat) (v : Int64) : Wd := (wn w, wK w, wN w, wI w, up2 (wL w) a k v, wR w)
def sR (w : Wd) (a k : Nat) (v : Option Nat) : Wd := (wn w, wK w, wN w, wI w, wL w, up2 (wR w) a k v)
/-- a whole row of ints, of longs anew -/
def rI (w : Wd) (a : Nat) (f : Nat → Int32) : Wd := (wn w, wK w, wN w, va_up (wI w) a f, wL w, wR w)
def rL (w : Wd) (a : Nat) (f : Nat → Int64) : Wd := (wn w, wK w, wN w, wI w, va_up (wL w) a f, wR w)
/-- a new cell of kind kd, of length n -/
def newC (w : Wd) (kd n : Nat) : Wd := (wn w + 1, va_up (wK w) (wn w) kd, va_up (wN w) (wn w) n, va_up (wI w) (wn w) (fun _ => 0), va_up (wL w) (wn w) (fun _ => 0), va_up (wR w) (wn w) (fun _ => none))
def fT : Nat → List Nat := fun c => match c with
  | 0 => [0, 0, 0, 0, 2, 2, 2, 2, 2, 2, 2]
  | 1 => [0, 0, 0, 0, 2, 2, 2, 2, 2, 2, 2]
  | 2 => [0, 0, 0, 0, 0, 0, 0, 0, 0, 0, 0, 1, 1, 1, 2]
  | 3 => [2, 0]
  | 4 => [0, 2, 2, 2, 3, 3]
  | 5 => [2, 2, 2, 0, 0, 0, 0, 0, 0]
  | 6 => [0, 0, 0, 0, 0, 0, 0, 2, 2, 2, 2, 2, 2, 2, 2, 2, 2, 2, 2, 2, 2, 2, 2, 2, 2, 2, 2, 2, 2, 2, 2, 2, 2, 2, 2, 2, 2, 2, 2, 2, 2, 2, 2, 2, 2, 2, 2, 2, 0, 2, 0, 2, 2]
  | _ => []
def fV (w : Wd) (a k t : Nat) : Value := match t with
  | 1 => .long (wL w a k)
  | 2 => va_rf (wR w a k)
  | _ => .int (wI w a k)
def flds (w : Wd) (a : Nat) (ts : List Nat) : List Value := ts.mapIdx (fun k t => fV w a k t)
def aRow (w : Wd) (a t : Nat) : vp_A := match t with
  | 0 => (wN w a, .inl (wI w a))
  | 1 => (wN w a, .inr (.inl (wL w a)))
  | 2 => (wN w a, .inl (wI w a))
  | _ => (wN w a, .inr (.inr (.inr (.inr (wR w a)))))
def cellOf (aC : Nat → ClassId) (w : Wd) (a : Nat) : va_E := if wK w a < 100 then .inr (wK w a - 1, flds w a (fT (wK w a - 1))) else .inl (aC (wK w a - 100), aRow w a (wK w a - 100))
def wl (aC : Nat → ClassId) (b0 : Nat) (w : Wd) : va_W := (List.range (wn w - b0)).map (fun j => (b0 + j, cellOf aC w (b0 + j)))
theorem wl_get {aC : Nat → ClassId} {b0 a : Nat} {w : Wd} (h0 : b0 ≤ a) (h1 : a < wn w) : (wl aC b0 w)[a - b0]? = some (a, cellOf aC w a) := by
  unfold wl
  rw [List.getElem?_map, List.getElem?_range (by omega)]
  simp only [Option.map_some]
  rw [show b0 + (a - b0) = a by omega]
theorem wl_len {aC : Nat → ClassId} {b0 : Nat} {w : Wd} : (wl aC b0 w).length = wn w - b0 := by simp [wl]
theorem wl_any {aC : Nat → ClassId} {b0 k : Nat} {w : Wd} {q : Nat × va_E} (h : (wl aC b0 w)[k]? = some q) : q.1 = b0 + k ∧ k < wn w - b0 ∧ q.2 = cellOf aC w q.1 := by
  have hk : k < wn w - b0 := by
    have := (List.getElem?_eq_some_iff.mp h).1
    rwa [wl_len] at this
  unfold wl at h
  rw [List.getElem?_map, List.getElem?_range hk] at h
  simp only [Option.map_some, Option.some.injEq] at h
  subst h
  exact ⟨rfl, hk, rfl⟩
theorem wl_D {aC : Nat → ClassId} {b0 : Nat} {w : Wd} : va_D (fun q : Nat => b0 ≤ q) (wl aC b0 w) := by
  refine ⟨fun i j p q hi hj h => ?_, fun k q hk => ?_⟩
  · have h1 := (wl_any hi).1
    have h2 := (wl_any hj).1
    omega
  · have h1 := (wl_any hk).1
    show b0 ≤ q.1
    omega
theorem wl_set {aC : Nat → ClassId} {b0 a : Nat} {w w' : Wd} (h0 : b0 ≤ a) (hn : wn w' = wn w) (ho : ∀ b, b ≠ a → cellOf aC w' b = cellOf aC w b) : (wl aC b0 w).set (a - b0) (a, cellOf aC w' a) = wl aC b0 w' := by
  apply List.ext_getElem?
  intro i
  by_cases hi : i < wn w - b0
  · have e2 : (wl aC b0 w')[i]? = some (b0 + i, cellOf aC w' (b0 + i)) := by
      have := wl_get (aC := aC) (b0 := b0) (a := b0 + i) (w := w') (by omega) (by omega)
      rwa [show b0 + i - b0 = i by omega] at this
    have e1 : (wl aC b0 w)[i]? = some (b0 + i, cellOf aC w (b0 + i)) := by
      have := wl_get (aC := aC) (b0 := b0) (a := b0 + i) (w := w) (by omega) (by omega)
      rwa [show b0 + i - b0 = i by omega] at this
    by_cases hia : i = a - b0
    · subst hia
      rw [List.getElem?_set_self (by rw [wl_len]; exact hi), e2, show b0 + (a - b0) = a by omega]
    · rw [List.getElem?_set_ne (Ne.symm hia), e1, e2, ho (b0 + i) (by omega)]
  · rw [List.getElem?_eq_none (by rw [List.length_set, wl_len]; omega), List.getElem?_eq_none (by rw [wl_len]; omega)]
theorem wl_push {aC : Nat → ClassId} {b0 : Nat} {w w' : Wd} (h0 : b0 ≤ wn w) (hn : wn w' = wn w + 1) (ho : ∀ b, b < wn w → cellOf aC w' b = cellOf aC w b) : wl aC b0 w ++ [(wn w, cellOf aC w' (wn w))] = wl aC b0 w' := by
  unfold wl
  rw [hn, show wn w + 1 - b0 = (wn w - b0) + 1 by omega, List.range_succ, List.map_append]
  congr 1
  · apply List.map_congr_left
    intro j hj
    have hj := List.mem_range.mp hj
    rw [ho _ (by omega)]
  · simp only [List.map_cons, List.map_nil]
    rw [show b0 + (wn w - b0) = wn w by omega]
/-- the heap holds the world -/
def Mm (D : va_G) (aC : Nat → ClassId) (b0 : Nat) (w : Wd) (H : Heap) : Prop := H.size = wn w ∧ b0 ≤ wn w ∧ (∀ a, wK w a ≠ 0 → b0 ≤ a ∧ a < wn w) ∧ va_P D vwCl (wl aC b0 w) H
/-- the array classes -/
def tyL (aC : Nat → ClassId) : List (ClassId × FieldType) := [(aC 0, .int), (aC 1, .long), (aC 2, .boolean), (aC 3, .object RX0), (aC 4, .object RX1), (aC 5, .object RX2), (aC 6, .object RX4)]
abbrev nst1 : Cond := .methodLinkNest RX4 46 yX0_init RX5
abbrev nst2 : Cond := .methodLinkNest RX0 90 yX5_placeOf RX5
abbrev nst3 : Cond := .methodLinkNest RX5 171 yX0_init RX5
def KX (D : va_G) (aC : Nat → ClassId) (U : State) : Prop := va_K D vwCl (tyL aC) U ∧ va_Nw nst1 U ∧ va_Nw nst2 U ∧ va_Nw nst3 U ∧ va_AO RX0 U ∧ va_AO RX1 U ∧ va_AO RX2 U ∧ va_AO RX4 U
theorem KX.warm {D : va_G} {aC : Nat → ClassId} {s U : State} (hW : s.WarmedH U.vm) (h : KX D aC s) : KX D aC U :=
  ⟨va_K.moved hW.alike h.1, va_Nw.warmM hW h.2.1, va_Nw.warmM hW h.2.2.1, va_Nw.warmM hW h.2.2.2.1, va_AO.moved hW.alike h.2.2.2.2.1, va_AO.moved hW.alike h.2.2.2.2.2.1, va_AO.moved hW.alike h.2.2.2.2.2.2.1, va_AO.moved hW.alike h.2.2.2.2.2.2.2⟩
theorem KX.calling {D : va_G} {aC : Nat → ClassId} {U : State} (g : JFrame) (mk : MethodId) (a : Array Value) (h : KX D aC U) : KX D aC (U.calling g mk a) :=
  ⟨va_K.moved (u := U) (U := U.calling g mk a) (Vm.Alike.refl U.vm) h.1, va_Nw.same rfl (u := U) rfl h.2.1, va_Nw.same rfl (u := U) rfl h.2.2.1, va_Nw.same rfl (u := U) rfl h.2.2.2.1, va_AO.moved (Vm.Alike.refl U.vm) h.2.2.2.2.1, va_AO.moved (Vm.Alike.refl U.vm) h.2.2.2.2.2.1, va_AO.moved (Vm.Alike.refl U.vm) h.2.2.2.2.2.2.1, va_AO.moved (Vm.Alike.refl U.vm) h.2.2.2.2.2.2.2⟩
/-- a contract at one start: with these arguments, from the world w: it returns ov, the world is w' -/
def Ct (l : Launch) (D : va_G) (aC : Nat → ClassId) (b0 : Nat) (y : MethodName) (ws : List Cond) (rm : Room) (av : List Value) (w : Wd) (ov : Option Value) (w' : Wd) : Prop :=
  Met l y ws rm (va_Pc av (fun U => Mm D aC b0 w U.heap ∧ KX D aC U)) (fun _ st oc t => (oc = .returned ov ∧ Mm D aC b0 w' t.heap) ∧ va_F (fun q : Nat => b0 ≤ q) st t) rm.cells rm.slots (fun q : Nat => b0 ≤ q)
abbrev Gw : List Cond := wsL_law
theorem Gw_good : Gw.all goodWord = true := by decide +kernel
theorem gIn {x : Cond} {y : MethodName} {b : ByteArray} {n : Nat} {r : Option FieldType} (h : Cond.code y b n r ∈ Gw) : GoodIn (x :: Gw) (Cond.code y b n r :: Gw) := fun w hw => by
  rcases List.mem_cons.mp hw with rfl | hw
  · exact ⟨List.mem_cons_of_mem _ h, good_of_word (List.all_eq_true.mp Gw_good _ h)⟩
  · exact ⟨List.mem_cons_of_mem _ hw, good_of_word (List.all_eq_true.mp Gw_good _ hw)⟩
theorem gInL {y : MethodName} {b : ByteArray} {n : Nat} {r : Option FieldType} (h : Cond.code y b n r ∈ Gw) : GoodIn Gw (Cond.code y b n r :: Gw) := fun w hw => by
  rcases List.mem_cons.mp hw with rfl | hw
  · exact ⟨h, good_of_word (List.all_eq_true.mp Gw_good _ h)⟩
  · exact ⟨hw, good_of_word (List.all_eq_true.mp Gw_good _ hw)⟩
