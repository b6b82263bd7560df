/-! PURE: reading worlds, running functions -/
theorem wsI (w : Wd) (a k : Nat) (v : Int32) : wn (sI w a k v) = wn w ∧ wK (sI w a k v) = wK w ∧ wN (sI w a k v) = wN w ∧ wL (sI w a k v) = wL w ∧ wR (sI w a k v) = wR w := ⟨rfl, rfl, rfl, rfl, rfl⟩
theorem wsL (w : Wd) (a k : Nat) (v : Int64) : wn (sL w a k v) = wn w ∧ wK (sL w a k v) = wK w ∧ wN (sL w a k v) = wN w ∧ wI (sL w a k v) = wI w ∧ wR (sL w a k v) = wR w := ⟨rfl, rfl, rfl, rfl, rfl⟩
theorem wsR (w : Wd) (a k : Nat) (v : Option Nat) : wn (sR w a k v) = wn w ∧ wK (sR w a k v) = wK w ∧ wN (sR w a k v) = wN w ∧ wI (sR w a k v) = wI w ∧ wL (sR w a k v) = wL w := ⟨rfl, rfl, rfl, rfl, rfl⟩
theorem wrI (w : Wd) (a : Nat) (f : Nat → Int32) : wn (rI w a f) = wn w ∧ wK (rI w a f) = wK w ∧ wN (rI w a f) = wN w ∧ wL (rI w a f) = wL w ∧ wR (rI w a f) = wR w := ⟨rfl, rfl, rfl, rfl, rfl⟩
theorem wrL (w : Wd) (a : Nat) (f : Nat → Int64) : wn (rL w a f) = wn w ∧ wK (rL w a f) = wK w ∧ wN (rL w a f) = wN w ∧ wI (rL w a f) = wI w ∧ wR (rL w a f) = wR w := ⟨rfl, rfl, rfl, rfl, rfl⟩
theorem up2_at {α : Type} (f : Nat → Nat → α) (a k : Nat) (v : α) (b j : Nat) : up2 f a k v b j = if b = a ∧ j = k then v else f b j := by
  unfold up2 va_up
  by_cases h : b = a
  · subst h
    by_cases h2 : j = k <;> simp [h2]
  · simp [h]
theorem wI_s (w : Wd) (a k : Nat) (v : Int32) (b j : Nat) : wI (sI w a k v) b j = if b = a ∧ j = k then v else wI w b j := up2_at _ _ _ _ _ _
theorem wL_s (w : Wd) (a k : Nat) (v : Int64) (b j : Nat) : wL (sL w a k v) b j = if b = a ∧ j = k then v else wL w b j := up2_at _ _ _ _ _ _
theorem wR_s (w : Wd) (a k : Nat) (v : Option Nat) (b j : Nat) : wR (sR w a k v) b j = if b = a ∧ j = k then v else wR w b j := up2_at _ _ _ _ _ _
theorem wI_r (w : Wd) (a : Nat) (f : Nat → Int32) (b : Nat) : wI (rI w a f) b = if b = a then f else wI w b := rfl
theorem wL_r (w : Wd) (a : Nat) (f : Nat → Int64) (b : Nat) : wL (rL w a f) b = if b = a then f else wL w b := rfl
theorem wnew (w : Wd) (kd n b : Nat) : wn (newC w kd n) = wn w + 1 ∧ wK (newC w kd n) b = (if b = wn w then kd else wK w b) ∧ wN (newC w kd n) b = (if b = wn w then n else wN w b) ∧ wI (newC w kd n) b = (if b = wn w then (fun _ => 0) else wI w b) ∧ wL (newC w kd n) b = (if b = wn w then (fun _ => 0) else wL w b) ∧ wR (newC w kd n) b = (if b = wn w then (fun _ => none) else wR w b) := ⟨rfl, rfl, rfl, rfl, rfl, rfl⟩
/-- the function answers, with P -/
def ok {α : Type} (x : Option (α × Wd)) (P : α → Wd → Prop) : Prop := ∃ v w', x = some (v, w') ∧ P v w'
section OK
variable {α : Type} {P : α → Wd → Prop} {w : Wd} {a kd k n : Nat} {i : Int32}
theorem ok_ret {v : α} (h : P v w) : ok (some (v, w)) P := ⟨v, w, rfl, h⟩
theorem ok_z {v : Int32} {P : Int32 → Wd → Prop} (h1 : v = 0 ∨ v = 1) (h : P v w) : ok (retZ v w) P := ⟨v, w, by unfold retZ; rw [if_pos h1], h⟩
theorem ok_mono {x : Option (α × Wd)} {P P' : α → Wd → Prop} (h : ok x P) (hP : ∀ v w, P v w → P' v w) : ok x P' := by
  obtain ⟨v, w', h1, h2⟩ := h; exact ⟨v, w', h1, hP _ _ h2⟩
theorem ok_bnd {β : Type} {x : Option (β × Wd)} {f : β → Wd → Option (α × Wd)} (h : ok x (fun v w1 => ok (f v w1) P)) : ok (bnd x f) P := by
  obtain ⟨v, w', rfl, h2⟩ := h; exact h2
/-- behind a call of which all is known by Q -/
theorem ok_call {β : Type} {x : Option (β × Wd)} {f : β → Wd → Option (α × Wd)} {Q : β → Wd → Prop} (hx : ok x Q) (h : ∀ v w1, Q v w1 → ok (f v w1) P) : ok (bnd x f) P := ok_bnd (ok_mono hx h)
theorem ok_if {c : Prop} [Decidable c] {A B : Option (α × Wd)} (h1 : c → ok A P) (h2 : ¬ c → ok B P) : ok (if c then A else B) P := by
  by_cases h : c
  · rw [if_pos h]; exact h1 h
  · rw [if_neg h]; exact h2 h
theorem ok_t {c : Prop} [Decidable c] {A B : Option (α × Wd)} (h : c) (h1 : ok A P) : ok (if c then A else B) P := by rw [if_pos h]; exact h1
theorem ok_f {c : Prop} [Decidable c] {A B : Option (α × Wd)} (h : ¬ c) (h1 : ok B P) : ok (if c then A else B) P := by rw [if_neg h]; exact h1
theorem chk_t {β : Type} {f : Nat → Option β} (hk : wK w a = kd) : chk w (some a) kd f = f a := by show (if wK w a = kd then f a else none) = f a; rw [if_pos hk]
theorem ok_chk {f : Nat → Option (α × Wd)} (hk : wK w a = kd) (h : ok (f a) P) : ok (chk w (some a) kd f) P := by rw [chk_t hk]; exact h
theorem ok_gI {f : Int32 → Option (α × Wd)} {v : Int32} (hk : wK w a = kd) (hv : wI w a k = v) (h : ok (f v) P) : ok (gI w (some a) kd k f) P := by subst hv; exact ok_chk hk h
theorem ok_gL {f : Int64 → Option (α × Wd)} {v : Int64} (hk : wK w a = kd) (hv : wL w a k = v) (h : ok (f v) P) : ok (gL w (some a) kd k f) P := by subst hv; exact ok_chk hk h
theorem ok_gR {f : Option Nat → Option (α × Wd)} {v : Option Nat} (hk : wK w a = kd) (hv : wR w a k = v) (h : ok (f v) P) : ok (gR w (some a) kd k f) P := by subst hv; exact ok_chk hk h
theorem ok_gN {f : Int32 → Option (α × Wd)} {v : Int32} (hk : wK w a = kd) (hv : nI (wN w a) = v) (h : ok (f v) P) : ok (gN w (some a) kd f) P := by subst hv; exact ok_chk hk h
theorem ok_pI {f : Wd → Option (α × Wd)} {v : Int32} (hk : wK w a = kd) (h : ok (f (sI w a k v)) P) : ok (pI w (some a) kd k v f) P := ok_chk hk h
theorem ok_pL {f : Wd → Option (α × Wd)} {v : Int64} (hk : wK w a = kd) (h : ok (f (sL w a k v)) P) : ok (pL w (some a) kd k v f) P := ok_chk hk h
theorem ok_pR {f : Wd → Option (α × Wd)} {v : Option Nat} (hk : wK w a = kd) (h : ok (f (sR w a k v)) P) : ok (pR w (some a) kd k v f) P := ok_chk hk h
theorem ok_pZ {f : Wd → Option (α × Wd)} {v : Int32} (hk : wK w a = kd) (hz : v = 0 ∨ v = 1) (h : ok (f (sI w a k v)) P) : ok (pZ w (some a) kd k v f) P := ok_chk hk (ok_t hz h)
theorem ok_ixc {f : Nat → Nat → Option (α × Wd)} (hi : i = nI n) (hk : wK w a = kd) (hn : n < wN w a) (hb : n < 2 ^ 31) (h : ok (f a n) P) : ok (ixc w (some a) kd i f) P := by
  subst hi
  refine ok_chk hk ?_
  have h1 : (nI n).toNatClampNeg = n := nI_clamp hb
  have h2 : ¬ (nI n < 0 ∨ wN w a ≤ (nI n).toNatClampNeg) := by
    rw [h1]
    rintro (h | h)
    · exact nI_pos hb h
    · omega
  show ok (if nI n < 0 ∨ wN w a ≤ (nI n).toNatClampNeg then none else f a (nI n).toNatClampNeg) P
  rw [if_neg h2, h1]
  exact h
theorem ok_aI {f : Int32 → Option (α × Wd)} {v : Int32} (hi : i = nI n) (hk : wK w a = kd) (hn : n < wN w a) (hb : n < 2 ^ 31) (hv : wI w a n = v) (h : ok (f v) P) : ok (aI w (some a) kd i f) P := by subst hv; exact ok_ixc hi hk hn hb h
theorem ok_aL {f : Int64 → Option (α × Wd)} {v : Int64} (hi : i = nI n) (hk : wK w a = kd) (hn : n < wN w a) (hb : n < 2 ^ 31) (hv : wL w a n = v) (h : ok (f v) P) : ok (aL w (some a) kd i f) P := by subst hv; exact ok_ixc hi hk hn hb h
theorem ok_aR {f : Option Nat → Option (α × Wd)} {v : Option Nat} (hi : i = nI n) (hk : wK w a = kd) (hn : n < wN w a) (hb : n < 2 ^ 31) (hv : wR w a n = v) (h : ok (f v) P) : ok (aR w (some a) kd i f) P := by subst hv; exact ok_ixc hi hk hn hb h
theorem ok_tI {f : Wd → Option (α × Wd)} {v : Int32} (hi : i = nI n) (hk : wK w a = kd) (hn : n < wN w a) (hb : n < 2 ^ 31) (h : ok (f (sI w a n v)) P) : ok (tI w (some a) kd i v f) P := ok_ixc hi hk hn hb h
theorem ok_tL {f : Wd → Option (α × Wd)} {v : Int64} (hi : i = nI n) (hk : wK w a = kd) (hn : n < wN w a) (hb : n < 2 ^ 31) (h : ok (f (sL w a n v)) P) : ok (tL w (some a) kd i v f) P := ok_ixc hi hk hn hb h
theorem ok_tZ {f : Wd → Option (α × Wd)} {v : Int32} (hi : i = nI n) (hk : wK w a = kd) (hn : n < wN w a) (hb : n < 2 ^ 31) (hz : v = 0 ∨ v = 1) (h : ok (f (sI w a n v)) P) : ok (tZ w (some a) kd i v f) P := ok_ixc hi hk hn hb (ok_t hz h)
theorem ok_tR {f : Wd → Option (α × Wd)} {v : Option Nat} {ke : Nat} (hi : i = nI n) (hk : wK w a = kd) (hn : n < wN w a) (hb : n < 2 ^ 31) (hv : v = none ∨ ∃ b, v = some b ∧ wK w b = ke) (h : ok (f (sR w a n v)) P) : ok (tR w (some a) kd i v ke f) P := by
  refine ok_ixc hi hk hn hb ?_
  rcases hv with rfl | ⟨b, rfl, hb⟩
  · exact h
  · show ok (if wK w b = ke then f (sR w a n (some b)) else none) P
    rw [if_pos hb]; exact h
theorem ok_nwO {f : Wd → Option (α × Wd)} (h : ok (f (newC w kd 0)) P) : ok (nwO w kd f) P := h
theorem ok_nwA {f : Wd → Option (α × Wd)} {bd : Nat} (hi : i = nI n) (hn : n ≤ bd) (hb : n < 2 ^ 31) (h : ok (f (newC w kd n)) P) : ok (nwA w kd i bd f) P := by
  subst hi
  have h1 : (nI n).toNatClampNeg = n := nI_clamp hb
  unfold nwA
  rw [h1, if_neg (by rintro (h | h); exact nI_pos hb h; omega)]
  exact h
theorem ok_nz {y : Int32} {z : Option (α × Wd)} (hy : ¬ y = 0) (h : ok z P) : ok (nz y z) P := by unfold nz; rw [if_neg hy]; exact h
theorem ok_cpI {f : Wd → Option (α × Wd)} {a0 a1 n : Nat} {sp dp m : Int32} (k0 : wK w a0 = 100) (k1 : wK w a1 = 100) (hs : sp = 0) (hd : dp = 0) (hm : m = nI n) (hb : n < 2 ^ 31) (n0 : n ≤ wN w a0) (n1 : n ≤ wN w a1) (h : ok (f (rI w a1 (va_cpy (wI w a0) (wI w a1) 0 0 n))) P) : ok (cpI w (some a0) sp (some a1) dp m f) P := by
  subst hs hd hm
  have h1 : (nI n).toNatClampNeg = n := nI_clamp hb
  unfold cpI
  rw [chk_t k0, chk_t k1, h1, if_neg (by
    rintro (h | h | h | h | h)
    · exact absurd h (by decide)
    · exact absurd h (by decide)
    · exact nI_pos hb h
    · exact absurd h (by rw [sb_cl0]; omega)
    · exact absurd h (by rw [sb_cl0]; omega))]
  exact h
theorem ok_cpL {f : Wd → Option (α × Wd)} {a0 a1 n : Nat} {sp dp m : Int32} (k0 : wK w a0 = 101) (k1 : wK w a1 = 101) (hs : sp = 0) (hd : dp = 0) (hm : m = nI n) (hb : n < 2 ^ 31) (n0 : n ≤ wN w a0) (n1 : n ≤ wN w a1) (h : ok (f (rL w a1 (va_cpy (wL w a0) (wL w a1) 0 0 n))) P) : ok (cpL w (some a0) sp (some a1) dp m f) P := by
  subst hs hd hm
  have h1 : (nI n).toNatClampNeg = n := nI_clamp hb
  unfold cpL
  rw [chk_t k0, chk_t k1, h1, if_neg (by
    rintro (h | h | h | h | h)
    · exact absurd h (by decide)
    · exact absurd h (by decide)
    · exact nI_pos hb h
    · exact absurd h (by rw [sb_cl0]; omega)
    · exact absurd h (by rw [sb_cl0]; omega))]
  exact h
end OK
theorem FU_pos (k : Nat) (h : k < 100000) : ∃ n, FU = n + k + 1 := ⟨99999 - k, by unfold FU; omega⟩
/-- what a run leaves as it was: outside DI the ints, outside DL the longs, outside DR the references of old cells; kinds and lengths of all old cells -/
def Fr (DI DL DR : Nat → Prop) (w w' : Wd) : Prop := wn w ≤ wn w' ∧ ∀ q, q < wn w → wK w' q = wK w q ∧ wN w' q = wN w q ∧ (¬ DI q → wI w' q = wI w q) ∧ (¬ DL q → wL w' q = wL w q) ∧ (¬ DR q → wR w' q = wR w q)
theorem Fr.rf {DI DL DR : Nat → Prop} {w : Wd} : Fr DI DL DR w w := ⟨Nat.le_refl _, fun _ _ => ⟨rfl, rfl, fun _ => rfl, fun _ => rfl, fun _ => rfl⟩⟩
theorem Fr.tr {DI DL DR : Nat → Prop} {w w1 w2 : Wd} (h1 : Fr DI DL DR w w1) (h2 : Fr DI DL DR w1 w2) : Fr DI DL DR w w2 := by
  refine ⟨Nat.le_trans h1.1 h2.1, fun q hq => ?_⟩
  obtain ⟨a1, a2, a3, a4, a5⟩ := h1.2 q hq
  obtain ⟨b1, b2, b3, b4, b5⟩ := h2.2 q (Nat.lt_of_lt_of_le hq h1.1)
  exact ⟨b1.trans a1, b2.trans a2, fun h => (b3 h).trans (a3 h), fun h => (b4 h).trans (a4 h), fun h => (b5 h).trans (a5 h)⟩
theorem Fr.mono {DI DL DR DI' DL' DR' : Nat → Prop} {w w1 : Wd} (h : Fr DI DL DR w w1) (hI : ∀ q, DI q → DI' q) (hL : ∀ q, DL q → DL' q) (hR : ∀ q, DR q → DR' q) : Fr DI' DL' DR' w w1 :=
  ⟨h.1, fun q hq => ⟨(h.2 q hq).1, (h.2 q hq).2.1, fun z => (h.2 q hq).2.2.1 (fun y => z (hI q y)), fun z => (h.2 q hq).2.2.2.1 (fun y => z (hL q y)), fun z => (h.2 q hq).2.2.2.2 (fun y => z (hR q y))⟩⟩
theorem Fr.sI {DI DL DR : Nat → Prop} {w w1 : Wd} {a k : Nat} {v : Int32} (h : Fr DI DL DR w w1) (ha : DI a) : Fr DI DL DR w (sI w1 a k v) := by
  refine ⟨h.1, fun q hq => ?_⟩
  obtain ⟨a1, a2, a3, a4, a5⟩ := h.2 q hq
  exact ⟨a1, a2, fun z => (up2_n _ _ _ (fun e => z (by rw [e]; exact ha))).trans (a3 z), a4, a5⟩
theorem Fr.sL {DI DL DR : Nat → Prop} {w w1 : Wd} {a k : Nat} {v : Int64} (h : Fr DI DL DR w w1) (ha : DL a) : Fr DI DL DR w (sL w1 a k v) := by
  refine ⟨h.1, fun q hq => ?_⟩
  obtain ⟨a1, a2, a3, a4, a5⟩ := h.2 q hq
  exact ⟨a1, a2, a3, fun z => (up2_n _ _ _ (fun e => z (by rw [e]; exact ha))).trans (a4 z), a5⟩
theorem Fr.sR {DI DL DR : Nat → Prop} {w w1 : Wd} {a k : Nat} {v : Option Nat} (h : Fr DI DL DR w w1) (ha : DR a) : Fr DI DL DR w (sR w1 a k v) := by
  refine ⟨h.1, fun q hq => ?_⟩
  obtain ⟨a1, a2, a3, a4, a5⟩ := h.2 q hq
  exact ⟨a1, a2, a3, a4, fun z => (up2_n _ _ _ (fun e => z (by rw [e]; exact ha))).trans (a5 z)⟩
theorem Fr.rI {DI DL DR : Nat → Prop} {w w1 : Wd} {a : Nat} {v : Nat → Int32} (h : Fr DI DL DR w w1) (ha : DI a) : Fr DI DL DR w (rI w1 a v) := by
  refine ⟨h.1, fun q hq => ?_⟩
  obtain ⟨a1, a2, a3, a4, a5⟩ := h.2 q hq
  exact ⟨a1, a2, fun z => (va_up_ne _ _ (fun e => z (by rw [e]; exact ha))).trans (a3 z), a4, a5⟩
theorem Fr.rL {DI DL DR : Nat → Prop} {w w1 : Wd} {a : Nat} {v : Nat → Int64} (h : Fr DI DL DR w w1) (ha : DL a) : Fr DI DL DR w (rL w1 a v) := by
  refine ⟨h.1, fun q hq => ?_⟩
  obtain ⟨a1, a2, a3, a4, a5⟩ := h.2 q hq
  exact ⟨a1, a2, a3, fun z => (va_up_ne _ _ (fun e => z (by rw [e]; exact ha))).trans (a4 z), a5⟩
theorem Fr.new {DI DL DR : Nat → Prop} {w w1 : Wd} {kd n : Nat} (h : Fr DI DL DR w w1) : Fr DI DL DR w (newC w1 kd n) := by
  refine ⟨Nat.le_succ_of_le h.1, fun q hq => ?_⟩
  obtain ⟨a1, a2, a3, a4, a5⟩ := h.2 q hq
  have hne : q ≠ wn w1 := Nat.ne_of_lt (Nat.lt_of_lt_of_le hq h.1)
  exact ⟨(va_up_ne _ _ hne).trans a1, (va_up_ne _ _ hne).trans a2, fun z => (va_up_ne _ _ hne).trans (a3 z), fun z => (va_up_ne _ _ hne).trans (a4 z), fun z => (va_up_ne _ _ hne).trans (a5 z)⟩
/-- only cells that are there have a kind -/
def Wf (w : Wd) : Prop := ∀ a, wK w a ≠ 0 → a < wn w
