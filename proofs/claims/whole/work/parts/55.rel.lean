/-! BOTH HOLD THE SAME STATE: the relation that every call keeps -/
/-- incarnation i is client c's and nobody else's -/
def Own (cl : Nat → ClD) (op c : Nat) (i : Int32) : Prop := ∃ j, i = nI j ∧ 1 ≤ j ∧ j ≤ op ∧ ∀ e, e < 6 → (cl e).1 = i → e = c
def RecOk (cl : Nat → ClD) (op : Nat) (r : Rec) : Prop := ∃ c n, c < 6 ∧ r.1 = nI c ∧ Own cl op c r.2.1 ∧ r.2.2.1 = nI n ∧ n ≤ 60
def BkOk (S : Nat) (cl : Nat → ClD) (op : Nat) (d : BkD) : Prop := (d.1 = 0 ∨ d.1 = 1 ∨ d.1 = 2) ∧ (∃ s, s < S ∧ d.2.2.1 = nI s) ∧ ∀ r, r ∈ d.2.2.2.2.1 → RecOk cl op r
def LtOk (S : Nat) (cl : Nat → ClD) (op : Nat) (t : Ltr) : Prop :=
  (t.1.1 = 1 ∧ ∃ s c n k, s < S ∧ c < 6 ∧ 1 ≤ n ∧ n ≤ 60 ∧ k < 32 ∧ t.1.2.1 = nI s ∧ t.1.2.2 = nI c ∧ Own cl op c t.2.1.1 ∧ t.2.1.2.1 = nI n ∧ t.2.2.1.1 = nI k) ∨
  (t.1.1 = 2 ∧ ∃ c s n, c < 6 ∧ s < S ∧ 1 ≤ n ∧ n ≤ 60 ∧ t.1.2.1 = nI c ∧ t.1.2.2 = nI s ∧ t.2.1.2.1 = nI n ∧ (t.2.1.2.2 = 1 → ∃ e, e < S ∧ t.2.2.1.2.2.1.toInt32 = nI e)) ∨
  (t.1.1 = 3 ∧ ∃ s c b, s < S ∧ c < S ∧ b < 8 ∧ t.1.2.1 = nI s ∧ t.1.2.2 = nI c ∧ t.2.1.2.1 = nI b ∧ t.2.2.1.1 = nI b ∧ ∀ r, r ∈ t.2.2.2.2.1 → RecOk cl op r) ∨
  (t.1.1 = 4 ∧ ∃ s c b, s < S ∧ c < S ∧ b < 8 ∧ t.1.2.1 = nI s ∧ t.1.2.2 = nI c ∧ t.2.1.2.1 = nI b ∧ t.2.2.1.1 = nI b) ∨
  (t.1.1 = 5 ∧ ∃ s c, s < S ∧ c < 6 ∧ t.1.2.1 = nI s ∧ t.1.2.2 = nI c ∧ Own cl op c t.2.1.1)
def ClOk (S : Nat) (d : ClD) : Prop := d.2.2.1.countP isW ≤ 4 ∧ (∀ r, r ∈ d.2.2.1 → ∃ k, k < 32 ∧ r.2.2.1 = nI k) ∧ (d.1 = 0 → ∀ i, ¬ i < d.2.2.1.length) ∧ ∀ b, b < 8 → ∃ s, s < S ∧ d.2.2.2 b = nI s
def Inv (S k : Nat) (sc : Nat → Int32) (cl : Nat → ClD) (mem kept : Nat → Nat → BkD) (up : Nat → Bool) (row : List Ltr) (held : Nat → List Ltr) : Prop :=
  k ≤ 512 ∧ (∃ op, op ≤ k ∧ sc 4 = nI op ∧ (∀ c, c < 6 → (cl c).1 = 0 ∨ Own cl op c (cl c).1) ∧ (∀ s b, s < S → b < 8 → (up s = true → BkOk S cl op (mem s b)) ∧ BkOk S cl op (kept s b)) ∧ (∀ t, t ∈ row → LtOk S cl op t) ∧ ∀ s, s < S → ∀ t, t ∈ held s → LtOk S cl op t) ∧ (∀ c, c < 6 → ClOk S (cl c)) ∧ ∀ s, s < S → (held s).length ≤ k
/-- what the class shows as a server's memory: what is kept, while it is down -/
def mxm (up : Nat → Bool) (mem kept : Nat → Nat → BkD) : Nat → Nat → BkD := fun s b => if up s then mem s b else kept s b
def cnf (up dy : Nat → Bool) : Nat → Bool := fun s => !(up s && dy s)
def RelA (w : Wd) (o S : Nat) (le : Int32) (sc : Nat → Int32) (cl : Nat → ClD) (mem kept : Nat → Nat → BkD) (up dy : Nat → Bool) (row : List Ltr) (held : Nat → List Ltr) : Prop := RC w o S le sc cl (mxm up mem kept) kept up (cnf up dy) row held ∧ RM w (aMo o S) S le sc cl mem kept up dy row held
def Rel (w : Wd) (o S : Nat) (le : Int32) (k : Nat) : Prop := ∃ sc cl mem kept up dy row held, RelA w o S le sc cl mem kept up dy row held ∧ Inv S k sc cl mem kept up row held
/-- a call of the class's and the same call of the reference's: the same answer, and both hold the same state again -/
def Same2 {α : Type} (o S : Nat) (le : Int32) (fC fM : Wd → Option (α × Wd)) : Prop := ∀ (w : Wd) (k : Nat), k < 512 → Rel w o S le k → ∃ v w1 w2, fC w = some (v, w1) ∧ wK w1 (aMo o S) = 7 ∧ fM w1 = some (v, w2) ∧ Rel w2 o S le (k + 1)
theorem Inv.up {S k : Nat} {sc : Nat → Int32} {cl : Nat → ClD} {mem kept : Nat → Nat → BkD} {up : Nat → Bool} {row : List Ltr} {held : Nat → List Ltr} (h : Inv S k sc cl mem kept up row held) (hk : k < 512) : Inv S (k + 1) sc cl mem kept up row held := by
  obtain ⟨h1, ⟨op, h2, h3⟩, h4, h5⟩ := h
  exact ⟨by omega, ⟨op, by omega, h3⟩, h4, fun s hs => Nat.le_succ_of_le (h5 s hs)⟩
theorem mkStep {α : Type} {o S : Nat} {le : Int32} {w : Wd} {k : Nat} {fC fM : Wd → Option (α × Wd)} {sc sc' : Nat → Int32} {cl cl' : Nat → ClD} {mem kept mem' kept' : Nat → Nat → BkD} {up dy up' dy' : Nat → Bool} {row row' : List Ltr} {held held' : Nat → List Ltr} {r : α} (hR : RelA w o S le sc cl mem kept up dy row held)
    (hC : ok (fC w) (fun v w1 => v = r ∧ RC w1 o S le sc' cl' (mxm up' mem' kept') kept' up' (cnf up' dy') row' held' ∧ Cf o S w w1))
    (hM : ∀ w1, RM w1 (aMo o S) S le sc cl mem kept up dy row held → ok (fM w1) (fun v w2 => v = r ∧ RM w2 (aMo o S) S le sc' cl' mem' kept' up' dy' row' held' ∧ Mf (aMo o S) w1 w2))
    (hI : Inv S (k + 1) sc' cl' mem' kept' up' row' held') : ∃ v w1 w2, fC w = some (v, w1) ∧ wK w1 (aMo o S) = 7 ∧ fM w1 = some (v, w2) ∧ Rel w2 o S le (k + 1) := by
  obtain ⟨v, w1, e1, rfl, c1, f1⟩ := hC
  have hm1 := hR.2.cf hR.1.1.2.2.2 f1
  obtain ⟨v2, w2, e2, rfl, c2, f2⟩ := hM w1 hm1
  exact ⟨_, w1, w2, e1, hm1.1.1.1, e2, sc', cl', mem', kept', up', dy', row', held', ⟨c1.mf f2, c2⟩, hI⟩
/-- a call that changes nothing -/
theorem mkSame {α : Type} {o S : Nat} {le : Int32} {w : Wd} {k : Nat} {fC fM : Wd → Option (α × Wd)} {sc : Nat → Int32} {cl : Nat → ClD} {mem kept : Nat → Nat → BkD} {up dy : Nat → Bool} {row : List Ltr} {held : Nat → List Ltr} {r : α} (hR : RelA w o S le sc cl mem kept up dy row held) (hI : Inv S k sc cl mem kept up row held) (hk : k < 512) (hC : fC w = some (r, w)) (hM : fM w = some (r, w)) : ∃ v w1 w2, fC w = some (v, w1) ∧ wK w1 (aMo o S) = 7 ∧ fM w1 = some (v, w2) ∧ Rel w2 o S le (k + 1) :=
  ⟨r, w, w, hC, hR.2.1.1.1, hM, sc, cl, mem, kept, up, dy, row, held, hR, hI.up hk⟩
section ST
variable {o S : Nat} {le : Int32}
theorem st_count (x : Int32) : Same2 o S le (f_X5_count o x) (f_X6_count (aMo o S) x) := by
  rintro w k hk ⟨sc, cl, mem, kept, up, dy, row, held, hR, hI⟩
  exact mkSame hR hI hk (c_count hR.1 x) (m_count hR.2 x)
theorem Inv.sc0 {S k : Nat} {sc : Nat → Int32} {cl : Nat → ClD} {mem kept : Nat → Nat → BkD} {up : Nat → Bool} {row : List Ltr} {held : Nat → List Ltr} {j : Nat} {v : Int32} (h : Inv S k sc cl mem kept up row held) (hj : j ≠ 4) : Inv S k (va_up sc j v) cl mem kept up row held := by
  obtain ⟨h1, ⟨op, h2, h3, h4⟩, h5, h6⟩ := h
  exact ⟨h1, ⟨op, h2, by rw [va_up_ne _ _ (Ne.symm hj)]; exact h3, h4⟩, h5, h6⟩
theorem st_ticks (x : Int32) : Same2 o S le (f_X5_ticks o x) (f_X6_ticks (aMo o S) x) := by
  rintro w k hk ⟨sc, cl, mem, kept, up, dy, row, held, hR, hI⟩
  by_cases c : 0 ≤ x ∧ x ≤ 1000
  · exact mkStep hR (ok_mono (c_ticks hR.1 x) (fun v w' h => h.1 c)) (fun w1 h1 => ok_mono (m_ticks h1 x) (fun v w' h => h.1 c)) ((hI.up hk).sc0 (by omega))
  · obtain ⟨v, w1, e1, -, h1⟩ := c_ticks hR.1 x
    obtain ⟨rfl, rfl⟩ := h1 c
    obtain ⟨v, w2, e2, -, h2⟩ := m_ticks hR.2 x
    obtain ⟨rfl, rfl⟩ := h2 c
    exact mkSame hR hI hk e1 e2
theorem Own.open_ {cl : Nat → ClD} {op c e : Nat} {i : Int32} {d : ClD} (h : Own cl op c i) (hop : op ≤ 600) (hd : d.1 = nI (op + 1)) : Own (va_up cl e d) (op + 1) c i := by
  obtain ⟨j, rfl, h1, h2, h3⟩ := h
  refine ⟨j, rfl, h1, by omega, fun f hf he => ?_⟩
  by_cases e1 : f = e
  · subst e1
    rw [va_up_self, hd, nI_eq (by omega) (by omega)] at he
    omega
  · rw [va_up_ne _ _ e1] at he
    exact h3 f hf he
theorem RecOk.open_ {cl : Nat → ClD} {op e : Nat} {r : Rec} {d : ClD} (h : RecOk cl op r) (hop : op ≤ 600) (hd : d.1 = nI (op + 1)) : RecOk (va_up cl e d) (op + 1) r := by
  obtain ⟨c, n, h1, h2, h3, h4⟩ := h
  exact ⟨c, n, h1, h2, h3.open_ hop hd, h4⟩
theorem BkOk.open_ {S : Nat} {cl : Nat → ClD} {op e : Nat} {b d} (h : BkOk S cl op b) (hop : op ≤ 600) (hd : (d : ClD).1 = nI (op + 1)) : BkOk S (va_up cl e d) (op + 1) b := ⟨h.1, h.2.1, fun r hr => (h.2.2 r hr).open_ hop hd⟩
theorem LtOk.open_ {S : Nat} {cl : Nat → ClD} {op e : Nat} {t : Ltr} {d : ClD} (h : LtOk S cl op t) (hop : op ≤ 600) (hd : d.1 = nI (op + 1)) : LtOk S (va_up cl e d) (op + 1) t := by
  rcases h with ⟨h0, s, c, n, k, h1, h2, h3, h4, h5, h6, h7, h8, h9⟩ | h | ⟨h0, s, c, b, h1, h2, h3, h4, h5, h6, h7, h8⟩ | h | ⟨h0, s, c, h1, h2, h3, h4, h5⟩
  · exact Or.inl ⟨h0, s, c, n, k, h1, h2, h3, h4, h5, h6, h7, h8.open_ hop hd, h9⟩
  · exact Or.inr (Or.inl h)
  · exact Or.inr (Or.inr (Or.inl ⟨h0, s, c, b, h1, h2, h3, h4, h5, h6, h7, fun r hr => (h8 r hr).open_ hop hd⟩))
  · exact Or.inr (Or.inr (Or.inr (Or.inl h)))
  · exact Or.inr (Or.inr (Or.inr (Or.inr ⟨h0, s, c, h1, h2, h3, h4, h5.open_ hop hd⟩)))
theorem Inv.open_ {S k : Nat} {sc : Nat → Int32} {cl : Nat → ClD} {mem kept : Nat → Nat → BkD} {up : Nat → Bool} {row : List Ltr} {held : Nat → List Ltr} {c : Nat} {en : Int32} (h : Inv S k sc cl mem kept up row held) (hk : k < 512) (hc : c < 6) : Inv S (k + 1) (va_up sc 4 (sc 4 + 1)) (va_up cl c (sc 4 + 1, en, [], (cl c).2.2.2)) mem kept up row held := by
  obtain ⟨h1, ⟨op, h2, h3, h4, h5, h6, h7⟩, h8, h9⟩ := h
  have hd : (sc 4 + 1, en, ([] : List Cal), (cl c).2.2.2).1 = nI (op + 1) := by show sc 4 + 1 = _; rw [h3, nI_1]
  have hop : op ≤ 600 := by omega
  refine ⟨by omega, ⟨op + 1, by omega, by rw [va_up_self]; exact hd, fun e he => ?_, fun s b hs hb => ⟨fun hu => ((h5 s b hs hb).1 hu).open_ hop hd, (h5 s b hs hb).2.open_ hop hd⟩, fun t ht => (h6 t ht).open_ hop hd, fun s hs t ht => (h7 s hs t ht).open_ hop hd⟩, fun e he => ?_, fun s hs => Nat.le_succ_of_le (h9 s hs)⟩
  · by_cases e1 : e = c
    · subst e1
      rw [va_up_self]
      refine Or.inr ⟨op + 1, hd, by omega, by omega, fun f hf hh => ?_⟩
      by_cases e2 : f = e
      · exact e2
      · rw [va_up_ne _ _ e2] at hh
        rcases h4 f hf with z | ⟨j, z1, z2, z3, -⟩
        · rw [hd, z, ← nI_0, nI_eq (by omega) (by omega)] at hh; omega
        · rw [hd, z1, nI_eq (by omega) (by omega)] at hh; omega
    · rw [va_up_ne _ _ e1]
      rcases h4 e he with z | z
      · exact Or.inl z
      · exact Or.inr (z.open_ hop hd)
  · by_cases e1 : e = c
    · subst e1
      rw [va_up_self]
      exact ⟨by simp, fun r hr => by simp at hr, fun _ i => by simp, (h8 e he).2.2.2⟩
    · rw [va_up_ne _ _ e1]; exact h8 e he
theorem st_open (x : Int32) : Same2 o S le (f_X5_open o x) (f_X6_open (aMo o S) x) := by
  rintro w k hk ⟨sc, cl, mem, kept, up, dy, row, held, hR, hI⟩
  rcases pk_ix x (n := 6) (by omega) with hx | hx | ⟨c, hc, rfl⟩
  · exact mkSame hR hI hk (c_open_out hR.1 (Or.inl hx)) (m_open_out (Or.inl hx))
  · exact mkSame hR hI hk (c_open_out hR.1 (Or.inr hx)) (m_open_out (Or.inr hx))
  · exact mkStep hR (c_open_in hR.1 hc) (fun w1 h1 => m_open_in h1 hc) (hI.open_ hk hc)
end ST
