/-! THE CLASS'S PART, piece by piece: what one write does to it -/
section UPD
variable {w w' : Wd} {o S : Nat} {le : Int32} {sc : Nat → Int32} {cl : Nat → ClD} {mem kept : Nat → Nat → BkD} {up cn : Nat → Bool} {row : List Ltr} {held : Nat → List Ltr}
/-- all pieces that lie outside X are as they were -/
theorem RC.pieces (h : RC w o S le sc cl mem kept up cn row held) (X : Nat → Prop) (hn : wn w ≤ wn w') (g : Ag (fun q => ¬ X q ∧ q < wn w) w w') (hX : ∀ q, X q → q < aMo o S) :
    ((∀ q, q = o ∨ q = o + 1 ∨ q = aCa o S → ¬ X q) → RCo w' o S le sc) ∧ (∀ s, s < S → (∀ q, q = aSv o s ∨ q = aSv o s + 3 ∨ q = aSv o s + 4 → ¬ X q) → RCs w' o s (up s) (cn s)) ∧ (∀ c, c < 6 → (∀ q, aCl o S c ≤ q ∧ q ≤ aCl o S c + 7 → ¬ X q) → CLd w' (aCl o S c) c (cl c)) ∧ (∀ s b, s < S → b < 8 → (∀ q, aMb o s b ≤ q ∧ q ≤ aMb o s b + 7 → ¬ X q) → BKd w' (aMb o s b) (mem s b)) ∧ (∀ s b, s < S → b < 8 → (∀ q, aKb o s b ≤ q ∧ q ≤ aKb o s b + 7 → ¬ X q) → BKd w' (aKb o s b) (kept s b)) ∧ ((∀ q, q = aRw o S ∨ q = aRw o S + 1 → ¬ X q) → ∃ La, isRow w' (aRw o S) 400 La ∧ LtsC w' (aMo o S + 45) La row) ∧ (∀ s, s < S → (∀ q, q = aSv o s + 1 ∨ q = aSv o s + 2 → ¬ X q) → ∃ La, isRow w' (aSv o s + 1) 512 La ∧ LtsC w' (aMo o S + 45) La (held s)) ∧ Cf o S w w' ∧ Ag (fun q => aMo o S + 45 ≤ q ∧ q < wn w) w w' := by
  obtain ⟨⟨h1, h2, h3, h4⟩, ho, hs, hc, hb, ⟨La, hr1, hr2⟩, hh⟩ := h
  have gT : Ag (fun q => aMo o S + 45 ≤ q ∧ q < wn w) w w' := g.mono fun q hq => ⟨fun z => by have := hX q z; omega, hq.2⟩
  refine ⟨fun n => ho.ag (g.mono fun q hq => ⟨n q hq, by unfold aMo at h4; unfold aCa at hq; omega⟩), fun s hs' n => (hs s hs').ag (g.mono fun q hq => ⟨n q hq, by unfold aMo at h4; unfold aSv at hq; omega⟩), fun c hc' n => (hc c hc').ag (g.mono fun q hq => ⟨n q hq, by unfold aMo at h4; unfold aCl at hq; omega⟩), fun s b hs' hb' n => (hb s b hs' hb').1.ag (g.mono fun q hq => ⟨n q hq, by unfold aMo at h4; unfold aMb at hq; omega⟩), fun s b hs' hb' n => (hb s b hs' hb').2.ag (g.mono fun q hq => ⟨n q hq, by unfold aMo at h4; unfold aKb at hq; omega⟩), fun n => ⟨La, hr1.ag (g.mono fun q hq => ⟨n q hq, by unfold aMo at h4; unfold aRw at hq; omega⟩) (fun x hx => (gT x (lts_in hr2 hx)).1), hr2.ag hn gT⟩, fun s hs' n => ?_, ⟨hn, g.mono fun q hq => ⟨fun z => by have := hX q z; omega, hq.2⟩⟩, gT⟩
  obtain ⟨Lb, q1, q2⟩ := hh s hs'
  exact ⟨Lb, q1.ag (g.mono fun q hq => ⟨n q hq, by unfold aMo at h4; unfold aSv at hq; omega⟩) (fun x hx => (gT x (lts_in q2 hx)).1), q2.ag hn gT⟩
theorem Bf.ag {a : Nat} (h : Bf a w w') : Ag (fun q => ¬ (a ≤ q ∧ q ≤ a + 7) ∧ q < wn w) w w' := fun q hq => ⟨by rw [h.2.1], by rw [h.2.2.1], (h.2.2.2.2 q (by omega)).1, (h.2.2.2.2 q (by omega)).2, by rw [h.2.2.2.1]⟩
theorem Bf.wf {a : Nat} (h : Bf a w w') (hw : Wf w) : Wf w' := fun q hq => by rw [h.1]; exact hw q (by rw [← h.2.1]; exact hq)
/-- a client's cells -/
theorem RC.cli (h : RC w o S le sc cl mem kept up cn row held) {c : Nat} (hc : c < 6) {d : ClD} (hf : Bf (aCl o S c) w w') (hd : CLd w' (aCl o S c) c d) : RC w' o S le sc (va_up cl c d) mem kept up cn row held ∧ Cf o S w w' := by
  obtain ⟨p1, p2, p3, p4, p5, p6, p7, p8, -⟩ := h.pieces (X := fun q => aCl o S c ≤ q ∧ q ≤ aCl o S c + 7) (Nat.le_of_eq hf.1.symm) hf.ag (fun q hq => by unfold aMo; unfold aCl at hq; omega)
  refine ⟨⟨⟨h.1.1, h.1.2.1, hf.wf h.1.2.2.1, by rw [hf.1]; exact h.1.2.2.2⟩, p1 (fun q hq => by unfold aCl; unfold aCa at hq; omega), fun s hs => p2 s hs (fun q hq => by unfold aCl; unfold aSv at hq; omega), fun e he => ?_, fun s b hs hb => ⟨p4 s b hs hb (fun q hq => by unfold aCl; unfold aMb at hq; omega), p5 s b hs hb (fun q hq => by unfold aCl; unfold aKb at hq; omega)⟩, p6 (fun q hq => by unfold aCl; unfold aRw at hq; omega), fun s hs => p7 s hs (fun q hq => by unfold aCl; unfold aSv at hq; omega)⟩, p8⟩
  by_cases e1 : e = c
  · subst e1; rw [va_up_self]; exact hd
  · rw [va_up_ne _ _ e1]; exact p3 e he (fun q hq => by unfold aCl at hq ⊢; omega)
def up2b (f : Nat → Nat → BkD) (s b : Nat) (d : BkD) : Nat → Nat → BkD := fun p q => if p = s ∧ q = b then d else f p q
/-- a bucket's cells, in memory -/
theorem RC.bkt (h : RC w o S le sc cl mem kept up cn row held) {s b : Nat} (hs : s < S) (hb : b < 8) {d : BkD} (hf : Bf (aMb o s b) w w') (hd : BKd w' (aMb o s b) d) : RC w' o S le sc cl (up2b mem s b d) kept up cn row held ∧ Cf o S w w' := by
  obtain ⟨p1, p2, p3, p4, p5, p6, p7, p8, -⟩ := h.pieces (X := fun q => aMb o s b ≤ q ∧ q ≤ aMb o s b + 7) (Nat.le_of_eq hf.1.symm) hf.ag (fun q hq => by unfold aMo; unfold aMb at hq; omega)
  refine ⟨⟨⟨h.1.1, h.1.2.1, hf.wf h.1.2.2.1, by rw [hf.1]; exact h.1.2.2.2⟩, p1 (fun q hq => by unfold aMb; unfold aCa at hq; omega), fun t ht => p2 t ht (fun q hq => by unfold aMb; unfold aSv at hq; rcases Nat.lt_trichotomy s t with h9 | h9 | h9 <;> omega), fun e he => p3 e he (fun q hq => by unfold aMb; unfold aCl at hq; omega), fun t e ht he => ⟨?_, p5 t e ht he (fun q hq => by unfold aMb; unfold aKb at hq; rcases Nat.lt_trichotomy s t with h9 | h9 | h9 <;> rcases Nat.lt_trichotomy b e with h8 | h8 | h8 <;> omega)⟩, p6 (fun q hq => by unfold aMb; unfold aRw at hq; omega), fun t ht => p7 t ht (fun q hq => by unfold aMb; unfold aSv at hq; rcases Nat.lt_trichotomy s t with h9 | h9 | h9 <;> omega)⟩, p8⟩
  unfold up2b
  by_cases e1 : t = s ∧ e = b
  · obtain ⟨rfl, rfl⟩ := e1
    rw [if_pos ⟨rfl, rfl⟩]; exact hd
  · rw [if_neg e1]; exact p4 t e ht he (fun q hq => by unfold aMb at hq ⊢; rcases Nat.lt_trichotomy s t with h9 | h9 | h9 <;> rcases Nat.lt_trichotomy b e with h8 | h8 | h8 <;> omega)
/-- a bucket's cells, in what is kept -/
theorem RC.kpt (h : RC w o S le sc cl mem kept up cn row held) {s b : Nat} (hs : s < S) (hb : b < 8) {d : BkD} (hf : Bf (aKb o s b) w w') (hd : BKd w' (aKb o s b) d) : RC w' o S le sc cl mem (up2b kept s b d) up cn row held ∧ Cf o S w w' := by
  obtain ⟨p1, p2, p3, p4, p5, p6, p7, p8, -⟩ := h.pieces (X := fun q => aKb o s b ≤ q ∧ q ≤ aKb o s b + 7) (Nat.le_of_eq hf.1.symm) hf.ag (fun q hq => by unfold aMo; unfold aKb at hq; omega)
  refine ⟨⟨⟨h.1.1, h.1.2.1, hf.wf h.1.2.2.1, by rw [hf.1]; exact h.1.2.2.2⟩, p1 (fun q hq => by unfold aKb; unfold aCa at hq; omega), fun t ht => p2 t ht (fun q hq => by unfold aKb; unfold aSv at hq; rcases Nat.lt_trichotomy s t with h9 | h9 | h9 <;> omega), fun e he => p3 e he (fun q hq => by unfold aKb; unfold aCl at hq; omega), fun t e ht he => ⟨p4 t e ht he (fun q hq => by unfold aKb; unfold aMb at hq; rcases Nat.lt_trichotomy s t with h9 | h9 | h9 <;> rcases Nat.lt_trichotomy b e with h8 | h8 | h8 <;> omega), ?_⟩, p6 (fun q hq => by unfold aKb; unfold aRw at hq; omega), fun t ht => p7 t ht (fun q hq => by unfold aKb; unfold aSv at hq; rcases Nat.lt_trichotomy s t with h9 | h9 | h9 <;> omega)⟩, p8⟩
  unfold up2b
  by_cases e1 : t = s ∧ e = b
  · obtain ⟨rfl, rfl⟩ := e1
    rw [if_pos ⟨rfl, rfl⟩]; exact hd
  · rw [if_neg e1]; exact p5 t e ht he (fun q hq => by unfold aKb at hq ⊢; rcases Nat.lt_trichotomy s t with h9 | h9 | h9 <;> rcases Nat.lt_trichotomy b e with h8 | h8 | h8 <;> omega)
theorem agI {a k : Nat} {v : Int32} : Ag (fun q => ¬ (q = a) ∧ q < wn w) w (sI w a k v) := fun q hq => ⟨rfl, rfl, up2_n _ _ _ hq.1, rfl, rfl⟩
theorem wfI {a k : Nat} {v : Int32} (h : Wf w) : Wf (sI w a k v) := h
/-- a number of the object's -/
theorem RC.num (h : RC w o S le sc cl mem kept up cn row held) {k j : Nat} {v : Int32} (hk : (k = 4 ∧ j = 0) ∨ (k = 5 ∧ j = 4) ∨ (k = 6 ∧ j = 1) ∨ (k = 7 ∧ j = 2) ∨ (k = 8 ∧ j = 3)) : RC (sI w o k v) o S le (va_up sc j v) cl mem kept up cn row held ∧ Cf o S w (sI w o k v) := by
  obtain ⟨p1, p2, p3, p4, p5, p6, p7, p8, -⟩ := h.pieces (w' := sI w o k v) (X := fun q => q = o) (Nat.le_refl _) agI (fun q hq => by unfold aMo; omega)
  refine ⟨⟨⟨h.1.1, h.1.2.1, wfI h.1.2.2.1, h.1.2.2.2⟩, ?_, fun t ht => p2 t ht (fun q hq => by unfold aSv at hq; omega), fun e he => p3 e he (fun q hq => by unfold aCl at hq; omega), fun t e ht he => ⟨p4 t e ht he (fun q hq => by unfold aMb at hq; omega), p5 t e ht he (fun q hq => by unfold aKb at hq; omega)⟩, p6 (fun q hq => by unfold aRw at hq; omega), fun t ht => p7 t ht (fun q hq => by unfold aSv at hq; omega)⟩, p8⟩
  obtain ⟨a1, ⟨a2, a3, a4, a5, a6, a7⟩, a8, a9⟩ := h.2.1
  refine ⟨a1, ?_, a8, a9⟩
  rcases hk with ⟨rfl, rfl⟩ | ⟨rfl, rfl⟩ | ⟨rfl, rfl⟩ | ⟨rfl, rfl⟩ | ⟨rfl, rfl⟩ <;> simp [wI_s, va_up, a2, a3, a4, a5, a6, a7]
/-- a server's two marks -/
theorem RC.mark (h : RC w o S le sc cl mem kept up cn row held) {s : Nat} (hs : s < S) (u c : Bool) (hw : w' = sI w (aSv o s) 4 (bI u) ∧ c = cn s ∨ w' = sI w (aSv o s) 5 (bI c) ∧ u = up s) : RC w' o S le sc cl mem kept (va_up up s u) (va_up cn s c) row held ∧ Cf o S w w' := by
  have hn : wn w' = wn w := by rcases hw with ⟨rfl, -⟩ | ⟨rfl, -⟩ <;> rfl
  have hK : wK w' = wK w := by rcases hw with ⟨rfl, -⟩ | ⟨rfl, -⟩ <;> rfl
  have g : Ag (fun q => ¬ (q = aSv o s) ∧ q < wn w) w w' := by rcases hw with ⟨rfl, -⟩ | ⟨rfl, -⟩ <;> exact agI
  obtain ⟨p1, p2, p3, p4, p5, p6, p7, p8, -⟩ := h.pieces (X := fun q => q = aSv o s) (Nat.le_of_eq hn.symm) g (fun q hq => by unfold aMo; unfold aSv at hq; omega)
  refine ⟨⟨⟨h.1.1, h.1.2.1, fun q hq => by rw [hn]; exact h.1.2.2.1 q (by rw [← hK]; exact hq), by rw [hn]; exact h.1.2.2.2⟩, p1 (fun q hq => by unfold aSv; unfold aCa at hq; omega), fun t ht => ?_, fun e he => p3 e he (fun q hq => by unfold aSv; unfold aCl at hq; omega), fun t e ht he => ⟨p4 t e ht he (fun q hq => by unfold aSv; unfold aMb at hq; rcases Nat.lt_trichotomy s t with h9 | h9 | h9 <;> omega), p5 t e ht he (fun q hq => by unfold aSv; unfold aKb at hq; rcases Nat.lt_trichotomy s t with h9 | h9 | h9 <;> omega)⟩, p6 (fun q hq => by unfold aSv; unfold aRw at hq; omega), fun t ht => p7 t ht (fun q hq => by unfold aSv at hq ⊢; rcases Nat.lt_trichotomy s t with h9 | h9 | h9 <;> omega)⟩, p8⟩
  by_cases e1 : t = s
  · subst e1
    rw [va_up_self, va_up_self]
    obtain ⟨⟨a1, a2, a3, a4, a5, a6, a7⟩, a8, a9⟩ := h.2.2.1 t ht
    rcases hw with ⟨rfl, rfl⟩ | ⟨rfl, rfl⟩
    · refine ⟨⟨a1, ?_, a3, a4, a5, ?_, ?_⟩, a8, a9⟩ <;> simp [wI_s, a2, a7]
    · refine ⟨⟨a1, ?_, a3, a4, a5, ?_, ?_⟩, a8, a9⟩ <;> simp [wI_s, a2, a6]
  · rw [va_up_ne _ _ e1, va_up_ne _ _ e1]
    exact p2 t ht (fun q hq => by unfold aSv at hq ⊢; rcases Nat.lt_trichotomy s t with h9 | h9 | h9 <;> omega)
/-- the row -/
theorem RC.rw_ (h : RC w o S le sc cl mem kept up cn row held) {La : List Nat} {row' : List Ltr} (hn : wn w' = wn w) (hw : Wf w') (g : Ag (fun q => ¬ (q = aRw o S ∨ q = aRw o S + 1) ∧ q < wn w) w w') (hr : isRow w' (aRw o S) 400 La) (hl : LtsC w' (aMo o S + 45) La row') : RC w' o S le sc cl mem kept up cn row' held ∧ Cf o S w w' := by
  obtain ⟨p1, p2, p3, p4, p5, p6, p7, p8, -⟩ := h.pieces (X := fun q => q = aRw o S ∨ q = aRw o S + 1) (Nat.le_of_eq hn.symm) g (fun q hq => by unfold aMo; unfold aRw at hq; omega)
  exact ⟨⟨⟨h.1.1, h.1.2.1, hw, by rw [hn]; exact h.1.2.2.2⟩, p1 (fun q hq => by have := h.1.1; unfold aRw; unfold aCa at hq; omega), fun t ht => p2 t ht (fun q hq => by unfold aRw; unfold aSv at hq; omega), fun e he => p3 e he (fun q hq => by unfold aRw; unfold aCl at hq; omega), fun t e ht he => ⟨p4 t e ht he (fun q hq => by unfold aRw; unfold aMb at hq; omega), p5 t e ht he (fun q hq => by unfold aRw; unfold aKb at hq; omega)⟩, ⟨La, hr, hl⟩, fun t ht => p7 t ht (fun q hq => by unfold aRw; unfold aSv at hq; omega)⟩, p8⟩
/-- what a server holds -/
theorem RC.hd (h : RC w o S le sc cl mem kept up cn row held) {s : Nat} (hs : s < S) {La : List Nat} {hh : List Ltr} (hn : wn w' = wn w) (hw : Wf w') (g : Ag (fun q => ¬ (q = aSv o s + 1 ∨ q = aSv o s + 2) ∧ q < wn w) w w') (hr : isRow w' (aSv o s + 1) 512 La) (hl : LtsC w' (aMo o S + 45) La hh) : RC w' o S le sc cl mem kept up cn row (va_up held s hh) ∧ Cf o S w w' := by
  obtain ⟨p1, p2, p3, p4, p5, p6, p7, p8, -⟩ := h.pieces (X := fun q => q = aSv o s + 1 ∨ q = aSv o s + 2) (Nat.le_of_eq hn.symm) g (fun q hq => by unfold aMo; unfold aSv at hq; omega)
  refine ⟨⟨⟨h.1.1, h.1.2.1, hw, by rw [hn]; exact h.1.2.2.2⟩, p1 (fun q hq => by unfold aSv; unfold aCa at hq; omega), fun t ht => p2 t ht (fun q hq => by unfold aSv at hq ⊢; rcases Nat.lt_trichotomy s t with h9 | h9 | h9 <;> omega), fun e he => p3 e he (fun q hq => by unfold aSv; unfold aCl at hq; omega), fun t e ht he => ⟨p4 t e ht he (fun q hq => by unfold aSv; unfold aMb at hq; rcases Nat.lt_trichotomy s t with h9 | h9 | h9 <;> omega), p5 t e ht he (fun q hq => by unfold aSv; unfold aKb at hq; rcases Nat.lt_trichotomy s t with h9 | h9 | h9 <;> omega)⟩, p6 (fun q hq => by unfold aSv; unfold aRw at hq; omega), fun t ht => ?_⟩, p8⟩
  by_cases e1 : t = s
  · subst e1; rw [va_up_self]; exact ⟨La, hr, hl⟩
  · rw [va_up_ne _ _ e1]; exact p7 t ht (fun q hq => by unfold aSv at hq ⊢; rcases Nat.lt_trichotomy s t with h9 | h9 | h9 <;> omega)
/-- new cells behind all -/
theorem RC.new_ (h : RC w o S le sc cl mem kept up cn row held) (hn : wn w ≤ wn w') (hw : Wf w') (g : Ag (fun q => q < wn w) w w') : RC w' o S le sc cl mem kept up cn row held ∧ Cf o S w w' := by
  obtain ⟨p1, p2, p3, p4, p5, p6, p7, p8, -⟩ := h.pieces (X := fun _ => False) hn (g.mono fun q hq => hq.2) (fun q hq => hq.elim)
  exact ⟨⟨⟨h.1.1, h.1.2.1, hw, Nat.le_trans h.1.2.2.2 hn⟩, p1 (fun _ _ => id), fun t ht => p2 t ht (fun _ _ => id), fun e he => p3 e he (fun _ _ => id), fun t e ht he => ⟨p4 t e ht he (fun _ _ => id), p5 t e ht he (fun _ _ => id)⟩, p6 (fun _ _ => id), fun t ht => p7 t ht (fun _ _ => id)⟩, p8⟩
end UPD
