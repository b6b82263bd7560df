/-! THE STATE as the reference has it -/
def recM (w : Wd) (m at_ i : Nat) : Rec := (wI w (m + 16) (12 * at_ + i), wI w (m + 17) (12 * at_ + i), wI w (m + 18) (12 * at_ + i), wL w (m + 19) (12 * at_ + i))
def BKM (w : Wd) (m at_ : Nat) (d : BkD) : Prop := wI w (m + 11) at_ = d.1 ∧ wI w (m + 12) at_ = d.2.1 ∧ wI w (m + 13) at_ = d.2.2.1 ∧ wI w (m + 15) at_ = nI d.2.2.2.2.1.length ∧ d.2.2.2.2.1.length ≤ 12 ∧ (∀ k, k < 4 → wL w (m + 14) (4 * at_ + k) = d.2.2.2.1 k) ∧ (∀ (i : Nat) (r : Rec), d.2.2.2.2.1[i]? = some r → recM w m at_ i = r) ∧ (∀ c, c < 6 → wI w (m + 20) (6 * at_ + c) = d.2.2.2.2.2.1 c) ∧ (∀ c, c < 6 → wI w (m + 21) (6 * at_ + c) = d.2.2.2.2.2.2 c)
def mrecM (w : Wd) (m l i : Nat) : Rec := (wI w (m + 36) (12 * l + i), wI w (m + 37) (12 * l + i), wI w (m + 38) (12 * l + i), wL w (m + 39) (12 * l + i))
def LTM (w : Wd) (m l : Nat) (t : Ltr) : Prop := (l < 4700 ∧ wI w (m + 24) l = 1 ∧ wI w (m + 25) l = t.1.1 ∧ wI w (m + 26) l = t.1.2.1 ∧ wI w (m + 27) l = t.1.2.2 ∧ wI w (m + 28) l = t.2.1.1 ∧ wI w (m + 29) l = t.2.1.2.1) ∧
  (t.1.1 = 1 → wI w (m + 30) l = t.2.1.2.2 ∧ wI w (m + 31) l = t.2.2.1.1 ∧ wI w (m + 32) l = t.2.2.1.2.1 ∧ wL w (m + 33) l = t.2.2.1.2.2.1 ∧ wL w (m + 34) l = t.2.2.1.2.2.2) ∧
  (t.1.1 = 2 → wI w (m + 30) l = t.2.1.2.2 ∧ wL w (m + 33) l = t.2.2.1.2.2.1) ∧
  (t.1.1 = 3 → wI w (m + 30) l = t.2.1.2.2 ∧ t.2.1.2.2 = nI t.2.2.2.2.1.length ∧ t.2.2.2.2.1.length ≤ 12 ∧ wI w (m + 31) l = t.2.2.1.1 ∧ (∀ k, k < 4 → wL w (m + 35) (4 * l + k) = t.2.2.2.1 k) ∧ (∀ (i : Nat) (r : Rec), t.2.2.2.2.1[i]? = some r → mrecM w m l i = r) ∧ (∀ c, c < 6 → wI w (m + 40) (6 * l + c) = t.2.2.2.2.2.1 c) ∧ (∀ c, c < 6 → wI w (m + 41) (6 * l + c) = t.2.2.2.2.2.2 c)) ∧
  (t.1.1 = 4 → wI w (m + 31) l = t.2.2.1.1)
def LtsM (w : Wd) (m : Nat) (Ls : List Nat) (Ts : List Ltr) : Prop := Ls.length = Ts.length ∧ ∀ (i l : Nat) (t : Ltr), Ls[i]? = some l → Ts[i]? = some t → LTM w m l t
def CMd (w : Wd) (m c : Nat) (d : ClD) : Prop := CLM w m c d.1 d.2.1 d.2.2.1 d.2.2.2
/-- how many, in all -/
def sumTo : Nat → (Nat → Nat) → Nat
  | 0, _ => 0
  | n + 1, f => sumTo n f + f n
/-- which letters of the pool are in the row, which are held, which are in hand (fl); no other is in use -/
def Pool (w : Wd) (m S : Nat) (Lr : List Nat) (Lh : Nat → List Nat) (fl : List (Nat × Ltr)) : Prop := ∀ l, l < 4700 → Lr.count l + sumTo S (fun s => (Lh s).count l) + (fl.map Prod.fst).count l = if wI w (m + 24) l = 0 then 0 else 1
def RMo (w : Wd) (m S : Nat) (le : Int32) (sc : Nat → Int32) : Prop := isM w m ∧ wI w m 0 = nI S ∧ wI w m 1 = le ∧ wI w m 2 = sc 0 ∧ wI w m 3 = sc 1 ∧ wI w m 4 = sc 2 ∧ wI w m 5 = sc 3 ∧ wI w m 6 = sc 4 ∧ ∃ fr, fr < 4700 ∧ wI w m 48 = nI fr
def RMr (w : Wd) (m : Nat) (Lr : List Nat) : Prop := wI w m 50 = nI Lr.length ∧ Lr.length ≤ 400 ∧ ∀ (i l : Nat), Lr[i]? = some l → wI w (m + 42) i = nI l
def RMh (w : Wd) (m s : Nat) (Lh : List Nat) : Prop := wI w (m + 44) s = nI Lh.length ∧ Lh.length ≤ 600 ∧ ∀ (i l : Nat), Lh[i]? = some l → wI w (m + 43) (4200 * s + i) = nI l
def RMF (w : Wd) (m S : Nat) (le : Int32) (sc : Nat → Int32) (cl : Nat → ClD) (mem kept : Nat → Nat → BkD) (up dy : Nat → Bool) (row : List Ltr) (held : Nat → List Ltr) (fl : List (Nat × Ltr)) : Prop :=
  RMo w m S le sc ∧ (∀ c, c < 6 → CMd w m c (cl c)) ∧ (∀ s, s < S → wI w (m + 22) s = bI (up s) ∧ wI w (m + 23) s = bI (dy s)) ∧ (∀ s b, s < S → b < 8 → (up s = true → BKM w m (16 * s + b) (mem s b)) ∧ BKM w m (16 * s + 8 + b) (kept s b)) ∧ ∃ (Lr : List Nat) (Lh : Nat → List Nat), (RMr w m Lr ∧ LtsM w m Lr row) ∧ (∀ s, s < S → RMh w m s (Lh s) ∧ LtsM w m (Lh s) (held s)) ∧ Pool w m S Lr Lh fl ∧ ∀ (l : Nat) (t : Ltr), (l, t) ∈ fl → LTM w m l t
abbrev RM (w : Wd) (m S : Nat) (le : Int32) (sc : Nat → Int32) (cl : Nat → ClD) (mem kept : Nat → Nat → BkD) (up dy : Nat → Bool) (row : List Ltr) (held : Nat → List Ltr) : Prop := RMF w m S le sc cl mem kept up dy row held []
theorem isM.ag {w w' : Wd} {m : Nat} (h : isM w m) (g : Ag (fun q => m ≤ q ∧ q ≤ m + 44) w w') : isM w' m := by
  refine ⟨by rw [(g m ⟨by omega, by omega⟩).1]; exact h.1, fun j h1 h2 => ?_⟩
  have g1 := g (m + j) ⟨by omega, by omega⟩
  rw [(g m ⟨by omega, by omega⟩).2.2.2.2, g1.1, g1.2.1]
  exact h.2 j h1 h2
/-- the reference's part, where its cells are the same -/
theorem RMF.ag {w w' : Wd} {m S : Nat} {le : Int32} {sc : Nat → Int32} {cl : Nat → ClD} {mem kept : Nat → Nat → BkD} {up dy : Nat → Bool} {row : List Ltr} {held : Nat → List Ltr} {fl : List (Nat × Ltr)} (h : RMF w m S le sc cl mem kept up dy row held fl) (g : Ag (fun q => m ≤ q ∧ q ≤ m + 44) w w') : RMF w' m S le sc cl mem kept up dy row held fl := by
  have I0 : wI w' m = wI w m := (g m ⟨by omega, by omega⟩).2.2.1
  have I : ∀ j, j ≤ 44 → wI w' (m + j) = wI w (m + j) := fun j hj => (g (m + j) ⟨by omega, by omega⟩).2.2.1
  have L : ∀ j, j ≤ 44 → wL w' (m + j) = wL w (m + j) := fun j hj => (g (m + j) ⟨by omega, by omega⟩).2.2.2.1
  obtain ⟨h1, h2, h3, h4, Lr, Lh, h5, h6, h7, h8⟩ := h
  have hlt : ∀ l t, LTM w m l t → LTM w' m l t := by
    intro l t h
    unfold LTM mrecM at h ⊢
    rw [I 24 (by omega), I 25 (by omega), I 26 (by omega), I 27 (by omega), I 28 (by omega), I 29 (by omega), I 30 (by omega), I 31 (by omega), I 32 (by omega), L 33 (by omega), L 34 (by omega), L 35 (by omega), I 36 (by omega), I 37 (by omega), I 38 (by omega), L 39 (by omega), I 40 (by omega), I 41 (by omega)]
    exact h
  have hbk : ∀ a d, BKM w m a d → BKM w' m a d := by
    intro a d h
    unfold BKM recM at h ⊢
    rw [I 11 (by omega), I 12 (by omega), I 13 (by omega), L 14 (by omega), I 15 (by omega), I 16 (by omega), I 17 (by omega), I 18 (by omega), L 19 (by omega), I 20 (by omega), I 21 (by omega)]
    exact h
  refine ⟨?_, fun c hc => ?_, fun s hs => ?_, fun s b hs hb => ⟨fun hu => hbk _ _ ((h4 s b hs hb).1 hu), hbk _ _ (h4 s b hs hb).2⟩, Lr, Lh, ⟨?_, h5.2.1, fun i l t hl ht => hlt l t (h5.2.2 i l t hl ht)⟩, fun s hs => ⟨?_, (h6 s hs).2.1, fun i l t hl ht => hlt l t ((h6 s hs).2.2 i l t hl ht)⟩, ?_, fun l t he => hlt l t (h8 l t he)⟩
  · unfold RMo at h1 ⊢
    rw [I0]
    exact ⟨h1.1.ag g, h1.2⟩
  · have := h2 c hc
    unfold CMd CLM calM at this ⊢
    rw [I 1 (by omega), I 2 (by omega), I 3 (by omega), I 4 (by omega), I 5 (by omega), L 6 (by omega), I 7 (by omega), I 8 (by omega), L 9 (by omega), L 10 (by omega)]
    exact this
  · rw [I 22 (by omega), I 23 (by omega)]; exact h3 s hs
  · have := h5.1
    unfold RMr at this ⊢
    rw [I0, I 42 (by omega)]
    exact this
  · have := (h6 s hs).1
    unfold RMh at this ⊢
    rw [I 43 (by omega), I 44 (by omega)]
    exact this
  · unfold Pool at h7 ⊢
    rw [I 24 (by omega)]
    exact h7
theorem RMF.cf {w w' : Wd} {o S : Nat} {le : Int32} {sc : Nat → Int32} {cl : Nat → ClD} {mem kept : Nat → Nat → BkD} {up dy : Nat → Bool} {row : List Ltr} {held : Nat → List Ltr} {fl : List (Nat × Ltr)} (h : RMF w (aMo o S) S le sc cl mem kept up dy row held fl) (hw : aMo o S + 45 ≤ wn w) (g : Cf o S w w') : RMF w' (aMo o S) S le sc cl mem kept up dy row held fl := h.ag (g.2.mono fun q hq => ⟨hq.1, by omega⟩)
