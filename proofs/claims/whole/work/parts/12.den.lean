/-! WHAT A METHOD DOES, as a function on worlds: words, and how each is opened -/
def FU : Nat := 100000
def chk {β : Type} (w : Wd) (r : Option Nat) (kd : Nat) (f : Nat → Option β) : Option β := match r with
  | none => none
  | some a => if wK w a = kd then f a else none
theorem chk_e {β : Type} {w : Wd} {r : Option Nat} {kd : Nat} {f : Nat → Option β} {x : β} (h : chk w r kd f = some x) : ∃ a, r = some a ∧ wK w a = kd ∧ f a = some x := by
  cases r with
  | none => cases h
  | some a =>
    by_cases hk : wK w a = kd
    · refine ⟨a, rfl, hk, ?_⟩
      have : (if wK w a = kd then f a else none) = some x := h
      rwa [if_pos hk] at this
    · have : (if wK w a = kd then f a else none) = some x := h
      rw [if_neg hk] at this
      cases this
def ixc {β : Type} (w : Wd) (r : Option Nat) (kd : Nat) (i : Int32) (f : Nat → Nat → Option β) : Option β := chk w r kd (fun a => if i < 0 ∨ wN w a ≤ i.toNatClampNeg then none else f a i.toNatClampNeg)
theorem ixc_e {β : Type} {w : Wd} {r : Option Nat} {kd : Nat} {i : Int32} {f : Nat → Nat → Option β} {x : β} (h : ixc w r kd i f = some x) : ∃ a, r = some a ∧ wK w a = kd ∧ vp_in i (wN w a) ∧ f a i.toNatClampNeg = some x := by
  obtain ⟨a, h1, h2, h3⟩ := chk_e h
  by_cases hk : i < 0 ∨ wN w a ≤ i.toNatClampNeg
  · rw [if_pos hk] at h3; cases h3
  · rw [if_neg hk] at h3; exact ⟨a, h1, h2, hk, h3⟩
section DE
variable {β : Type} {w : Wd} {r : Option Nat} {kd k : Nat} {i : Int32} {x : β}
def gI (w : Wd) (r : Option Nat) (kd k : Nat) (f : Int32 → Option β) : Option β := chk w r kd (fun a => f (wI w a k))
def gL (w : Wd) (r : Option Nat) (kd k : Nat) (f : Int64 → Option β) : Option β := chk w r kd (fun a => f (wL w a k))
def gR (w : Wd) (r : Option Nat) (kd k : Nat) (f : Option Nat → Option β) : Option β := chk w r kd (fun a => f (wR w a k))
theorem gI_e {f : Int32 → Option β} (h : gI w r kd k f = some x) : ∃ a v, r = some a ∧ wK w a = kd ∧ wI w a k = v ∧ f v = some x := by
  obtain ⟨a, h1, h2, h3⟩ := chk_e h; exact ⟨a, _, h1, h2, rfl, h3⟩
theorem gL_e {f : Int64 → Option β} (h : gL w r kd k f = some x) : ∃ a v, r = some a ∧ wK w a = kd ∧ wL w a k = v ∧ f v = some x := by
  obtain ⟨a, h1, h2, h3⟩ := chk_e h; exact ⟨a, _, h1, h2, rfl, h3⟩
theorem gR_e {f : Option Nat → Option β} (h : gR w r kd k f = some x) : ∃ a v, r = some a ∧ wK w a = kd ∧ wR w a k = v ∧ f v = some x := by
  obtain ⟨a, h1, h2, h3⟩ := chk_e h; exact ⟨a, _, h1, h2, rfl, h3⟩
def gN (w : Wd) (r : Option Nat) (kd : Nat) (f : Int32 → Option β) : Option β := chk w r kd (fun a => f (nI (wN w a)))
theorem gN_e {f : Int32 → Option β} (h : gN w r kd f = some x) : ∃ a v, r = some a ∧ wK w a = kd ∧ nI (wN w a) = v ∧ f v = some x := by
  obtain ⟨a, h1, h2, h3⟩ := chk_e h; exact ⟨a, _, h1, h2, rfl, h3⟩
def aI (w : Wd) (r : Option Nat) (kd : Nat) (i : Int32) (f : Int32 → Option β) : Option β := ixc w r kd i (fun a j => f (wI w a j))
def aL (w : Wd) (r : Option Nat) (kd : Nat) (i : Int32) (f : Int64 → Option β) : Option β := ixc w r kd i (fun a j => f (wL w a j))
def aR (w : Wd) (r : Option Nat) (kd : Nat) (i : Int32) (f : Option Nat → Option β) : Option β := ixc w r kd i (fun a j => f (wR w a j))
theorem aI_e {f : Int32 → Option β} (h : aI w r kd i f = some x) : ∃ a v, r = some a ∧ wK w a = kd ∧ vp_in i (wN w a) ∧ wI w a i.toNatClampNeg = v ∧ f v = some x := by
  obtain ⟨a, h1, h2, h3, h4⟩ := ixc_e h; exact ⟨a, _, h1, h2, h3, rfl, h4⟩
theorem aL_e {f : Int64 → Option β} (h : aL w r kd i f = some x) : ∃ a v, r = some a ∧ wK w a = kd ∧ vp_in i (wN w a) ∧ wL w a i.toNatClampNeg = v ∧ f v = some x := by
  obtain ⟨a, h1, h2, h3, h4⟩ := ixc_e h; exact ⟨a, _, h1, h2, h3, rfl, h4⟩
theorem aR_e {f : Option Nat → Option β} (h : aR w r kd i f = some x) : ∃ a v, r = some a ∧ wK w a = kd ∧ vp_in i (wN w a) ∧ wR w a i.toNatClampNeg = v ∧ f v = some x := by
  obtain ⟨a, h1, h2, h3, h4⟩ := ixc_e h; exact ⟨a, _, h1, h2, h3, rfl, h4⟩
def pI (w : Wd) (r : Option Nat) (kd k : Nat) (v : Int32) (f : Wd → Option β) : Option β := chk w r kd (fun a => f (sI w a k v))
def pL (w : Wd) (r : Option Nat) (kd k : Nat) (v : Int64) (f : Wd → Option β) : Option β := chk w r kd (fun a => f (sL w a k v))
def pR (w : Wd) (r : Option Nat) (kd k : Nat) (v : Option Nat) (f : Wd → Option β) : Option β := chk w r kd (fun a => f (sR w a k v))
theorem pI_e {v : Int32} {f : Wd → Option β} (h : pI w r kd k v f = some x) : ∃ a w', r = some a ∧ wK w a = kd ∧ sI w a k v = w' ∧ f w' = some x := by
  obtain ⟨a, h1, h2, h3⟩ := chk_e h; exact ⟨a, _, h1, h2, rfl, h3⟩
theorem pL_e {v : Int64} {f : Wd → Option β} (h : pL w r kd k v f = some x) : ∃ a w', r = some a ∧ wK w a = kd ∧ sL w a k v = w' ∧ f w' = some x := by
  obtain ⟨a, h1, h2, h3⟩ := chk_e h; exact ⟨a, _, h1, h2, rfl, h3⟩
theorem pR_e {v : Option Nat} {f : Wd → Option β} (h : pR w r kd k v f = some x) : ∃ a w', r = some a ∧ wK w a = kd ∧ sR w a k v = w' ∧ f w' = some x := by
  obtain ⟨a, h1, h2, h3⟩ := chk_e h; exact ⟨a, _, h1, h2, rfl, h3⟩
def tI (w : Wd) (r : Option Nat) (kd : Nat) (i v : Int32) (f : Wd → Option β) : Option β := ixc w r kd i (fun a j => f (sI w a j v))
def tL (w : Wd) (r : Option Nat) (kd : Nat) (i : Int32) (v : Int64) (f : Wd → Option β) : Option β := ixc w r kd i (fun a j => f (sL w a j v))
def tZ (w : Wd) (r : Option Nat) (kd : Nat) (i v : Int32) (f : Wd → Option β) : Option β := ixc w r kd i (fun a j => if v = 0 ∨ v = 1 then f (sI w a j v) else none)
def okv (w : Wd) (v : Option Nat) (ke : Nat) (y : Option β) : Option β := match v with
  | none => y
  | some b => if wK w b = ke then y else none
def tR (w : Wd) (r : Option Nat) (kd : Nat) (i : Int32) (v : Option Nat) (ke : Nat) (f : Wd → Option β) : Option β := ixc w r kd i (fun a j => okv w v ke (f (sR w a j v)))
theorem tI_e {v : Int32} {f : Wd → Option β} (h : tI w r kd i v f = some x) : ∃ a w', r = some a ∧ wK w a = kd ∧ vp_in i (wN w a) ∧ sI w a i.toNatClampNeg v = w' ∧ f w' = some x := by
  obtain ⟨a, h1, h2, h3, h4⟩ := ixc_e h; exact ⟨a, _, h1, h2, h3, rfl, h4⟩
theorem tL_e {v : Int64} {f : Wd → Option β} (h : tL w r kd i v f = some x) : ∃ a w', r = some a ∧ wK w a = kd ∧ vp_in i (wN w a) ∧ sL w a i.toNatClampNeg v = w' ∧ f w' = some x := by
  obtain ⟨a, h1, h2, h3, h4⟩ := ixc_e h; exact ⟨a, _, h1, h2, h3, rfl, h4⟩
theorem tZ_e {v : Int32} {f : Wd → Option β} (h : tZ w r kd i v f = some x) : ∃ a w', r = some a ∧ wK w a = kd ∧ vp_in i (wN w a) ∧ (v = 0 ∨ v = 1) ∧ sI w a i.toNatClampNeg v = w' ∧ f w' = some x := by
  obtain ⟨a, h1, h2, h3, h4⟩ := ixc_e h
  by_cases hv : v = 0 ∨ v = 1
  · rw [if_pos hv] at h4; exact ⟨a, _, h1, h2, h3, hv, rfl, h4⟩
  · rw [if_neg hv] at h4; cases h4
theorem tR_e {v : Option Nat} {ke : Nat} {f : Wd → Option β} (h : tR w r kd i v ke f = some x) : ∃ a w', r = some a ∧ wK w a = kd ∧ vp_in i (wN w a) ∧ okr w v ke ∧ sR w a i.toNatClampNeg v = w' ∧ f w' = some x := by
  obtain ⟨a, h1, h2, h3, h4⟩ := ixc_e h
  cases v with
  | none => exact ⟨a, _, h1, h2, h3, Or.inl rfl, rfl, h4⟩
  | some b =>
    by_cases hv : wK w b = ke
    · have h5 : (if wK w b = ke then f (sR w a i.toNatClampNeg (some b)) else none) = some x := h4
      rw [if_pos hv] at h5
      exact ⟨a, _, h1, h2, h3, Or.inr ⟨b, rfl, hv⟩, rfl, h5⟩
    · have h5 : (if wK w b = ke then f (sR w a i.toNatClampNeg (some b)) else none) = some x := h4
      rw [if_neg hv] at h5
      cases h5
def pZ (w : Wd) (r : Option Nat) (kd k : Nat) (v : Int32) (f : Wd → Option β) : Option β := chk w r kd (fun a => if v = 0 ∨ v = 1 then f (sI w a k v) else none)
theorem pZ_e {v : Int32} {f : Wd → Option β} (h : pZ w r kd k v f = some x) : ∃ a w', r = some a ∧ wK w a = kd ∧ (v = 0 ∨ v = 1) ∧ sI w a k v = w' ∧ f w' = some x := by
  obtain ⟨a, h1, h2, h3⟩ := chk_e h
  by_cases hv : v = 0 ∨ v = 1
  · rw [if_pos hv] at h3; exact ⟨a, _, h1, h2, hv, rfl, h3⟩
  · rw [if_neg hv] at h3; cases h3
def bnd {α : Type} (y : Option (α × Wd)) (f : α → Wd → Option β) : Option β := match y with
  | none => none
  | some q => f q.1 q.2
theorem bnd_e {α : Type} {y : Option (α × Wd)} {f : α → Wd → Option β} (h : bnd y f = some x) : ∃ v w1, y = some (v, w1) ∧ f v w1 = some x := by
  cases y with
  | none => cases h
  | some q => exact ⟨q.1, q.2, rfl, h⟩
def nwO (w : Wd) (kd : Nat) (f : Wd → Option β) : Option β := f (newC w kd 0)
theorem nwO_e {f : Wd → Option β} (h : nwO w kd f = some x) : ∃ w', newC w kd 0 = w' ∧ f w' = some x := ⟨_, rfl, h⟩
def nwA (w : Wd) (kd : Nat) (n : Int32) (bd : Nat) (f : Wd → Option β) : Option β := if n < 0 ∨ bd < n.toNatClampNeg then none else f (newC w kd n.toNatClampNeg)
theorem nwA_e {n : Int32} {bd : Nat} {f : Wd → Option β} (h : nwA w kd n bd f = some x) : ∃ w', ¬ n < 0 ∧ n.toNatClampNeg ≤ bd ∧ newC w kd n.toNatClampNeg = w' ∧ f w' = some x := by
  unfold nwA at h
  by_cases hv : n < 0 ∨ bd < n.toNatClampNeg
  · rw [if_pos hv] at h; cases h
  · rw [if_neg hv] at h; exact ⟨_, fun z => hv (Or.inl z), Nat.not_lt.mp fun z => hv (Or.inr z), rfl, h⟩
def nz (y : Int32) (z : Option β) : Option β := if y = 0 then none else z
theorem nz_e {y : Int32} {z : Option β} (h : nz y z = some x) : ¬ y = 0 ∧ z = some x := by
  unfold nz at h
  by_cases hv : y = 0
  · rw [if_pos hv] at h; cases h
  · rw [if_neg hv] at h; exact ⟨hv, h⟩
end DE
def retZ (v : Int32) (w : Wd) : Option (Int32 × Wd) := if v = 0 ∨ v = 1 then some (v, w) else none
theorem retZ_e {v : Int32} {w : Wd} {x : Int32 × Wd} (h : retZ v w = some x) : (v = 0 ∨ v = 1) ∧ (v, w) = x := by
  unfold retZ at h
  by_cases hv : v = 0 ∨ v = 1
  · rw [if_pos hv] at h; exact ⟨hv, Option.some.inj h⟩
  · rw [if_neg hv] at h; cases h
def cpI {β : Type} (w : Wd) (r0 : Option Nat) (sp : Int32) (r1 : Option Nat) (dp n : Int32) (f : Wd → Option β) : Option β := chk w r0 100 (fun a0 => chk w r1 100 (fun a1 => if sp < 0 ∨ dp < 0 ∨ n < 0 ∨ wN w a0 < sp.toNatClampNeg + n.toNatClampNeg ∨ wN w a1 < dp.toNatClampNeg + n.toNatClampNeg then none else f (rI w a1 (va_cpy (wI w a0) (wI w a1) sp.toNatClampNeg dp.toNatClampNeg n.toNatClampNeg))))
def cpL {β : Type} (w : Wd) (r0 : Option Nat) (sp : Int32) (r1 : Option Nat) (dp n : Int32) (f : Wd → Option β) : Option β := chk w r0 101 (fun a0 => chk w r1 101 (fun a1 => if sp < 0 ∨ dp < 0 ∨ n < 0 ∨ wN w a0 < sp.toNatClampNeg + n.toNatClampNeg ∨ wN w a1 < dp.toNatClampNeg + n.toNatClampNeg then none else f (rL w a1 (va_cpy (wL w a0) (wL w a1) sp.toNatClampNeg dp.toNatClampNeg n.toNatClampNeg))))
theorem cpI_e {β : Type} {w : Wd} {r0 r1 : Option Nat} {sp dp n : Int32} {f : Wd → Option β} {x : β} (h : cpI w r0 sp r1 dp n f = some x) : ∃ a0 a1 w', r0 = some a0 ∧ r1 = some a1 ∧ wK w a0 = 100 ∧ wK w a1 = 100 ∧ ¬ sp < 0 ∧ ¬ dp < 0 ∧ ¬ n < 0 ∧ sp.toNatClampNeg + n.toNatClampNeg ≤ wN w a0 ∧ dp.toNatClampNeg + n.toNatClampNeg ≤ wN w a1 ∧ rI w a1 (va_cpy (wI w a0) (wI w a1) sp.toNatClampNeg dp.toNatClampNeg n.toNatClampNeg) = w' ∧ f w' = some x := by
  obtain ⟨a0, h1, h2, h3⟩ := chk_e h
  obtain ⟨a1, h4, h5, h6⟩ := chk_e h3
  by_cases hv : sp < 0 ∨ dp < 0 ∨ n < 0 ∨ wN w a0 < sp.toNatClampNeg + n.toNatClampNeg ∨ wN w a1 < dp.toNatClampNeg + n.toNatClampNeg
  · rw [if_pos hv] at h6; cases h6
  · rw [if_neg hv] at h6
    exact ⟨a0, a1, _, h1, h4, h2, h5, fun z => hv (Or.inl z), fun z => hv (Or.inr (Or.inl z)), fun z => hv (Or.inr (Or.inr (Or.inl z))), Nat.not_lt.mp fun z => hv (Or.inr (Or.inr (Or.inr (Or.inl z)))), Nat.not_lt.mp fun z => hv (Or.inr (Or.inr (Or.inr (Or.inr z)))), rfl, h6⟩
theorem cpL_e {β : Type} {w : Wd} {r0 r1 : Option Nat} {sp dp n : Int32} {f : Wd → Option β} {x : β} (h : cpL w r0 sp r1 dp n f = some x) : ∃ a0 a1 w', r0 = some a0 ∧ r1 = some a1 ∧ wK w a0 = 101 ∧ wK w a1 = 101 ∧ ¬ sp < 0 ∧ ¬ dp < 0 ∧ ¬ n < 0 ∧ sp.toNatClampNeg + n.toNatClampNeg ≤ wN w a0 ∧ dp.toNatClampNeg + n.toNatClampNeg ≤ wN w a1 ∧ rL w a1 (va_cpy (wL w a0) (wL w a1) sp.toNatClampNeg dp.toNatClampNeg n.toNatClampNeg) = w' ∧ f w' = some x := by
  obtain ⟨a0, h1, h2, h3⟩ := chk_e h
  obtain ⟨a1, h4, h5, h6⟩ := chk_e h3
  by_cases hv : sp < 0 ∨ dp < 0 ∨ n < 0 ∨ wN w a0 < sp.toNatClampNeg + n.toNatClampNeg ∨ wN w a1 < dp.toNatClampNeg + n.toNatClampNeg
  · rw [if_pos hv] at h6; cases h6
  · rw [if_neg hv] at h6
    exact ⟨a0, a1, _, h1, h4, h2, h5, fun z => hv (Or.inl z), fun z => hv (Or.inr (Or.inl z)), fun z => hv (Or.inr (Or.inr (Or.inl z))), Nat.not_lt.mp fun z => hv (Or.inr (Or.inr (Or.inr (Or.inl z)))), Nat.not_lt.mp fun z => hv (Or.inr (Or.inr (Or.inr (Or.inr z)))), rfl, h6⟩
def mx (x y : Int32) : Int32 := if x < y then y else x
theorem cat1 (r : Option Nat) : (va_rf r).category = 1 := by cases r <;> rfl
/-- at a place of a method's code: if the function answers there, the machine comes to the end Q -/
def BW {β : Type} (l : Launch) (D : va_G) (aC : Nat → ClassId) (b0 : Nat) (p : Program) (e : Env) (R : Room) (s : State) (m : MethodId) (args : Array Value) (below : List Frame) (meth : Method) (c : Code) (Q : State → Prop) (res : β) (mc ms kc ks : Nat) (f : Option β) (w : Wd) (pc nL : Nat) (lv : List (Nat × Value)) (st : List Value) : Prop :=
  ∀ (H : Heap) (locs : List Loc) (cells slots : Nat) (ls : Array Slot), f = some res → Mm D aC b0 w H → va_S (Fb b0) s.heap H locs → cells + kc ≤ mc → slots + ks ≤ ms → lv_has ls nL lv → W p l e R s m args below meth c H locs cells slots Q (F0 m pc ls st)
/-- the end: what the function answered -/
abbrev Qe (D : va_G) (aC : Nat → ClassId) (b0 : Nat) (below : List Frame) (args : Array Value) (s : State) (mc ms : Nat) (ov : Option Value) (w' : Wd) : State → Prop := MQ below (Qr D aC b0 ov w') args s mc ms (Fb b0)
theorem tsw {x : Int32} {lo hi : Int} (h : ∀ k : Int, lo ≤ k → k ≤ hi → x.toInt ≠ k) : x.toInt < lo ∨ hi < x.toInt := by
  by_cases h1 : x.toInt < lo
  · exact Or.inl h1
  · by_cases h2 : hi < x.toInt
    · exact Or.inr h2
    · exact absurd rfl (h x.toInt (by omega) (by omega))
theorem ne_i {x : Int32} {k : Int32} (h : ¬ x = k) : x.toInt ≠ k.toInt := fun z => h (Int32.toInt_inj.mp z)
theorem cati (x : Int32) : (Value.int x).category = 1 := rfl
theorem catl (x : Int64) : (Value.long x).category = 2 := rfl
