/-! THE STATE that class and reference hold in common, and how each holds it -/
abbrev BkD : Type := Int32 × Int32 × Int32 × (Nat → Int64) × List Rec × (Nat → Int32) × (Nat → Int32)
abbrev ClD : Type := Int32 × Int32 × List Cal × (Nat → Int32)
def BKd (w : Wd) (a : Nat) (d : BkD) : Prop := BK w a d.1 d.2.1 d.2.2.1 d.2.2.2.1 d.2.2.2.2.1 d.2.2.2.2.2.1 d.2.2.2.2.2.2
def CLd (w : Wd) (a c : Nat) (d : ClD) : Prop := CLI w a c d.1 d.2.1 d.2.2.1 d.2.2.2
/-- a letter: kind, to, from; nr, number, info; key, act, a, b; what a MOVE takes along: values, records, incarnations, FIRSTS -/
abbrev Ltr : Type := (Int32 × Int32 × Int32) × (Int32 × Int32 × Int32) × (Int32 × Int32 × Int64 × Int64) × ((Nat → Int64) × List Rec × (Nat → Int32) × (Nat → Int32))
/-- a letter as the class has it, at x -/
def LTC (w : Wd) (x : Nat) (t : Ltr) : Prop := (wK w x = 3 ∧ wI w x 0 = t.1.1 ∧ wI w x 1 = t.1.2.1 ∧ wI w x 2 = t.1.2.2) ∧
  (t.1.1 = 1 → wI w x 3 = t.2.1.1 ∧ wI w x 5 = t.2.1.2.1 ∧ wI w x 6 = t.2.1.2.2 ∧ wI w x 9 = t.2.2.1.1 ∧ wI w x 10 = t.2.2.1.2.1 ∧ wL w x 11 = t.2.2.1.2.2.1 ∧ wL w x 12 = t.2.2.1.2.2.2) ∧
  (t.1.1 = 2 → wI w x 3 = t.2.1.1 ∧ wI w x 5 = t.2.1.2.1 ∧ wI w x 8 = t.2.1.2.2 ∧ wL w x 13 = t.2.2.1.2.2.1) ∧
  (t.1.1 = 3 → wI w x 4 = t.2.1.1 ∧ wI w x 7 = t.2.1.2.1 ∧ wI w x 7 = t.2.2.1.1 ∧ ∃ y st ve hi, wR w x 14 = some y ∧ BK w y st ve hi t.2.2.2.1 t.2.2.2.2.1 t.2.2.2.2.2.1 t.2.2.2.2.2.2 ∧ t.2.1.2.2 = nI t.2.2.2.2.1.length ∧ x < y ∧ y + 7 < wn w) ∧
  (t.1.1 = 4 → wI w x 4 = t.2.1.1 ∧ wI w x 7 = t.2.1.2.1 ∧ wI w x 7 = t.2.2.1.1 ∧ wR w x 14 = none) ∧
  (t.1.1 = 5 → wI w x 3 = t.2.1.1 ∧ wI w x 6 = t.2.1.2.1 ∧ wR w x 14 = none)
/-- the same cells -/
def Ag (P : Nat → Prop) (w w' : Wd) : Prop := ∀ q, P q → wK w' q = wK w q ∧ wN w' q = wN w q ∧ wI w' q = wI w q ∧ wL w' q = wL w q ∧ wR w' q = wR w q
theorem Ag.mono {P P' : Nat → Prop} {w w' : Wd} (h : Ag P w w') (hP : ∀ q, P' q → P q) : Ag P' w w' := fun q hq => h q (hP q hq)
theorem BK.ag {w w' : Wd} {a : Nat} {st ve hi : Int32} {va : Nat → Int64} {rs : List Rec} {kn fi : Nat → Int32} (h : BK w a st ve hi va rs kn fi) (g : Ag (fun q => a ≤ q ∧ q ≤ a + 7) w w') : BK w' a st ve hi va rs kn fi := by
  have G : ∀ j, j ≤ 7 → wK w' (a + j) = wK w (a + j) ∧ wN w' (a + j) = wN w (a + j) ∧ wI w' (a + j) = wI w (a + j) ∧ wL w' (a + j) = wL w (a + j) ∧ wR w' (a + j) = wR w (a + j) := fun j hj => g (a + j) ⟨by omega, by omega⟩
  have g0 := G 0 (by omega)
  rw [Nat.add_zero] at g0
  have g1 := G 1 (by omega)
  have g2 := G 2 (by omega)
  have g3 := G 3 (by omega)
  have g4 := G 4 (by omega)
  have g5 := G 5 (by omega)
  have g6 := G 6 (by omega)
  have g7 := G 7 (by omega)
  unfold BK isBk recAt at h ⊢
  rw [g0.1, g0.2.2.1, g0.2.2.2.2, g1.1, g1.2.1, g1.2.2.2.1, g2.1, g2.2.1, g2.2.2.1, g3.1, g3.2.1, g3.2.2.1, g4.1, g4.2.1, g4.2.2.1, g5.1, g5.2.1, g5.2.2.2.1, g6.1, g6.2.1, g6.2.2.1, g7.1, g7.2.1, g7.2.2.1]
  exact h
theorem CLI.ag {w w' : Wd} {a c : Nat} {inc en : Int32} {cs : List Cal} {gu : Nat → Int32} (h : CLI w a c inc en cs gu) (g : Ag (fun q => a ≤ q ∧ q ≤ a + 7) w w') : CLI w' a c inc en cs gu := by
  have G : ∀ j, j ≤ 7 → wK w' (a + j) = wK w (a + j) ∧ wN w' (a + j) = wN w (a + j) ∧ wI w' (a + j) = wI w (a + j) ∧ wL w' (a + j) = wL w (a + j) ∧ wR w' (a + j) = wR w (a + j) := fun j hj => g (a + j) ⟨by omega, by omega⟩
  have g0 := G 0 (by omega)
  rw [Nat.add_zero] at g0
  have g1 := G 1 (by omega)
  have g2 := G 2 (by omega)
  have g3 := G 3 (by omega)
  have g4 := G 4 (by omega)
  have g5 := G 5 (by omega)
  have g6 := G 6 (by omega)
  have g7 := G 7 (by omega)
  unfold CLI isCl calAt at h ⊢
  rw [g0.1, g0.2.2.1, g0.2.2.2.2, g1.1, g1.2.1, g1.2.2.1, g2.1, g2.2.1, g2.2.2.1, g3.1, g3.2.1, g3.2.2.1, g4.1, g4.2.1, g4.2.2.2.1, g5.1, g5.2.1, g5.2.2.2.1, g6.1, g6.2.1, g6.2.2.1, g7.1, g7.2.1, g7.2.2.2.1]
  exact h
/-- letters and all that they take along lie from T on; nothing there changes -/
theorem LTC.ag {w w' : Wd} {x T : Nat} {t : Ltr} (h : LTC w x t) (hx : T ≤ x) (hxn : x < wn w) (hn : wn w ≤ wn w') (g : Ag (fun q => T ≤ q ∧ q < wn w) w w') : LTC w' x t := by
  have g0 := g x ⟨hx, hxn⟩
  obtain ⟨h0, h1, h2, h3, h4, h5⟩ := h
  unfold LTC
  rw [g0.1, g0.2.2.1, g0.2.2.2.1, g0.2.2.2.2]
  refine ⟨h0, h1, h2, fun e => ?_, h4, h5⟩
  obtain ⟨a1, a2, a3, y, st, ve, hi, b1, b2, b3, b4, b5⟩ := h3 e
  exact ⟨a1, a2, a3, y, st, ve, hi, b1, b2.ag (g.mono fun q hq => ⟨by omega, by omega⟩), b3, b4, by omega⟩
-- addresses in the class's part
def aSv (o s : Nat) : Nat := o + 2 + 133 * s
def aMb (o s b : Nat) : Nat := o + 2 + 133 * s + 5 + 16 * b
def aKb (o s b : Nat) : Nat := o + 2 + 133 * s + 13 + 16 * b
def aCa (o S : Nat) : Nat := o + 2 + 133 * S
def aCl (o S c : Nat) : Nat := o + 3 + 133 * S + 8 * c
def aRw (o S : Nat) : Nat := o + 51 + 133 * S
def aMo (o S : Nat) : Nat := o + 53 + 133 * S
/-- letters in a row: at the addresses La stand the letters Ts -/
def LtsC (w : Wd) (T : Nat) (La : List Nat) (Ts : List Ltr) : Prop := La.length = Ts.length ∧ ∀ (i x : Nat) (t : Ltr), La[i]? = some x → Ts[i]? = some t → LTC w x t ∧ T ≤ x ∧ x < wn w
/-- the object: servers, clients, row, lease; sc: 0 time, 1 lost, 2 effects, 3 done, 4 opened -/
def RCo (w : Wd) (o S : Nat) (le : Int32) (sc : Nat → Int32) : Prop := (wK w o = 6 ∧ wR w o 0 = some (o + 1) ∧ wR w o 1 = some (aCa o S) ∧ wR w o 2 = some (aRw o S)) ∧ (wI w o 3 = le ∧ wI w o 4 = sc 0 ∧ wI w o 5 = sc 4 ∧ wI w o 6 = sc 1 ∧ wI w o 7 = sc 2 ∧ wI w o 8 = sc 3) ∧ (wK w (o + 1) = 106 ∧ wN w (o + 1) = S ∧ ∀ s, s < S → wR w (o + 1) s = some (aSv o s)) ∧ (wK w (aCa o S) = 104 ∧ wN w (aCa o S) = 6 ∧ ∀ c, c < 6 → wR w (aCa o S) c = some (aCl o S c))
def bI (b : Bool) : Int32 := if b then 1 else 0
/-- a server: up, clean; what is held -/
def RCs (w : Wd) (o s : Nat) (up cn : Bool) : Prop := (wK w (aSv o s) = 5 ∧ wI w (aSv o s) 0 = nI s ∧ wR w (aSv o s) 1 = some (aSv o s + 1) ∧ wR w (aSv o s) 2 = some (aSv o s + 3) ∧ wR w (aSv o s) 3 = some (aSv o s + 4) ∧ wI w (aSv o s) 4 = bI up ∧ wI w (aSv o s) 5 = bI cn) ∧ (wK w (aSv o s + 3) = 103 ∧ wN w (aSv o s + 3) = 8 ∧ ∀ b, b < 8 → wR w (aSv o s + 3) b = some (aMb o s b)) ∧ (wK w (aSv o s + 4) = 103 ∧ wN w (aSv o s + 4) = 8 ∧ ∀ b, b < 8 → wR w (aSv o s + 4) b = some (aKb o s b))
/-- all of the class's part -/
def RC (w : Wd) (o S : Nat) (le : Int32) (sc : Nat → Int32) (cl : Nat → ClD) (mem kept : Nat → Nat → BkD) (up cn : Nat → Bool) (row : List Ltr) (held : Nat → List Ltr) : Prop :=
  (2 ≤ S ∧ S ≤ 4 ∧ Wf w ∧ aMo o S + 45 ≤ wn w) ∧ RCo w o S le sc ∧ (∀ s, s < S → RCs w o s (up s) (cn s)) ∧ (∀ c, c < 6 → CLd w (aCl o S c) c (cl c)) ∧ (∀ s b, s < S → b < 8 → BKd w (aMb o s b) (mem s b) ∧ BKd w (aKb o s b) (kept s b)) ∧ (∃ La, isRow w (aRw o S) 400 La ∧ LtsC w (aMo o S + 45) La row) ∧ (∀ s, s < S → ∃ La, isRow w (aSv o s + 1) 512 La ∧ LtsC w (aMo o S + 45) La (held s))
/-- what a run of the class's leaves: all from the reference on -/
def Cf (o S : Nat) (w w' : Wd) : Prop := wn w ≤ wn w' ∧ Ag (fun q => aMo o S ≤ q ∧ q < wn w) w w'
theorem Cf.rf {o S : Nat} {w : Wd} : Cf o S w w := ⟨Nat.le_refl _, fun _ _ => ⟨rfl, rfl, rfl, rfl, rfl⟩⟩
theorem Cf.tr {o S : Nat} {w w1 w2 : Wd} (h1 : Cf o S w w1) (h2 : Cf o S w1 w2) : Cf o S w w2 := by
  refine ⟨Nat.le_trans h1.1 h2.1, fun q hq => ?_⟩
  obtain ⟨a1, a2, a3, a4, a5⟩ := h1.2 q hq
  obtain ⟨b1, b2, b3, b4, b5⟩ := h2.2 q ⟨hq.1, Nat.lt_of_lt_of_le hq.2 h1.1⟩
  exact ⟨b1.trans a1, b2.trans a2, b3.trans a3, b4.trans a4, b5.trans a5⟩
theorem LtsC.ag {w w' : Wd} {T : Nat} {La : List Nat} {Ts : List Ltr} (h : LtsC w T La Ts) (hn : wn w ≤ wn w') (g : Ag (fun q => T ≤ q ∧ q < wn w) w w') : LtsC w' T La Ts := by
  refine ⟨h.1, fun i x t hx ht => ?_⟩
  obtain ⟨h1, h2, h3⟩ := h.2 i x t hx ht
  exact ⟨h1.ag h2 h3 hn g, h2, by omega⟩
theorem isRow.ag {w w' : Wd} {a cap : Nat} {La : List Nat} (h : isRow w a cap La) (g : Ag (fun q => q = a ∨ q = a + 1) w w') (gk : ∀ x, x ∈ La → wK w' x = wK w x) : isRow w' a cap La := by
  have g0 := g a (Or.inl rfl)
  have g1 := g (a + 1) (Or.inr rfl)
  obtain ⟨h1, h2, h3, h4, h5, h6, h7, h8, h9⟩ := h
  refine ⟨by rw [g0.1]; exact h1, by rw [g0.2.2.2.2]; exact h2, by rw [g1.1]; exact h3, by rw [g1.2.1]; exact h4, by rw [g0.2.2.1]; exact h5, h6, h7, fun i x hx => by rw [g1.2.2.2.2]; exact h8 i x hx, fun x hx => by rw [gk x hx]; exact h9 x hx⟩
theorem RCo.ag {w w' : Wd} {o S : Nat} {le : Int32} {sc : Nat → Int32} (h : RCo w o S le sc) (g : Ag (fun q => q = o ∨ q = o + 1 ∨ q = aCa o S) w w') : RCo w' o S le sc := by
  have g0 := g o (Or.inl rfl)
  have g1 := g (o + 1) (Or.inr (Or.inl rfl))
  have g2 := g (aCa o S) (Or.inr (Or.inr rfl))
  unfold RCo at h ⊢
  rw [g0.1, g0.2.2.1, g0.2.2.2.2, g1.1, g1.2.1, g1.2.2.2.2, g2.1, g2.2.1, g2.2.2.2.2]
  exact h
theorem RCs.ag {w w' : Wd} {o s : Nat} {up cn : Bool} (h : RCs w o s up cn) (g : Ag (fun q => q = aSv o s ∨ q = aSv o s + 3 ∨ q = aSv o s + 4) w w') : RCs w' o s up cn := by
  have g0 := g (aSv o s) (Or.inl rfl)
  have g1 := g (aSv o s + 3) (Or.inr (Or.inl rfl))
  have g2 := g (aSv o s + 4) (Or.inr (Or.inr rfl))
  unfold RCs at h ⊢
  rw [g0.1, g0.2.2.1, g0.2.2.2.2, g1.1, g1.2.1, g1.2.2.2.2, g2.1, g2.2.1, g2.2.2.2.2]
  exact h
theorem lts_in {w : Wd} {T : Nat} {La : List Nat} {Ts : List Ltr} (h : LtsC w T La Ts) {x : Nat} (hx : x ∈ La) : T ≤ x ∧ x < wn w := by
  obtain ⟨i, hi⟩ := List.getElem?_of_mem hx
  have hl : i < Ts.length := by
    rw [← h.1]; exact (List.getElem?_eq_some_iff.mp hi).1
  exact (h.2 i x _ hi (List.getElem?_eq_getElem hl)).2
/-- the class's part is apart from the reference's -/
theorem RC.mf {w w' : Wd} {o S : Nat} {le : Int32} {sc : Nat → Int32} {cl : Nat → ClD} {mem kept : Nat → Nat → BkD} {up cn : Nat → Bool} {row : List Ltr} {held : Nat → List Ltr} (h : RC w o S le sc cl mem kept up cn row held) (g : Mf (aMo o S) w w') : RC w' o S le sc cl mem kept up cn row held := by
  obtain ⟨⟨h1, h2, h3, h4⟩, ho, hs, hc, hb, ⟨La, hr1, hr2⟩, hh⟩ := h
  have G : ∀ (P : Nat → Prop), (∀ q, P q → q < aMo o S ∨ aMo o S + 44 < q) → Ag P w w' := fun P hP q hq => ⟨by rw [g.2.1], by rw [g.2.2.1], (g.2.2.2.2 q (hP q hq)).1, (g.2.2.2.2 q (hP q hq)).2, by rw [g.2.2.2.1]⟩
  have gT : Ag (fun q => aMo o S + 45 ≤ q ∧ q < wn w) w w' := G _ (fun q hq => Or.inr (by omega))
  refine ⟨⟨h1, h2, fun a ha => by rw [g.1]; exact h3 a (by rw [← g.2.1]; exact ha), by rw [g.1]; exact h4⟩, ho.ag (G _ fun q hq => Or.inl (by unfold aMo; unfold aCa at hq; omega)), fun s hs' => (hs s hs').ag (G _ fun q hq => Or.inl (by unfold aMo; unfold aSv at hq; omega)), fun c hc' => (hc c hc').ag (G _ fun q hq => Or.inl (by unfold aMo; unfold aCl at hq; omega)), fun s b hs' hb' => ⟨(hb s b hs' hb').1.ag (G _ fun q hq => Or.inl (by unfold aMo; unfold aMb at hq; omega)), (hb s b hs' hb').2.ag (G _ fun q hq => Or.inl (by unfold aMo; unfold aKb at hq; omega))⟩, ⟨La, hr1.ag (G _ fun q hq => Or.inl (by unfold aMo; unfold aRw at hq; omega)) (fun x _ => by rw [g.2.1]), hr2.ag (by rw [g.1]; exact Nat.le_refl _) gT⟩, fun s hs' => ?_⟩
  obtain ⟨Lb, q1, q2⟩ := hh s hs'
  exact ⟨Lb, q1.ag (G _ fun q hq => Or.inl (by unfold aMo; unfold aSv at hq; omega)) (fun x _ => by rw [g.2.1]), q2.ag (by rw [g.1]; exact Nat.le_refl _) gT⟩
