/-! LETTERS OF THE REFERENCE: a new one; into the row; held; out of the row -/
section LE
variable {w w' : Wd} {m S : Nat} {le : Int32} {sc : Nat → Int32} {cl : Nat → ClD} {mem kept : Nat → Nat → BkD} {up dy : Nat → Bool} {row : List Ltr} {held : Nat → List Ltr} {fl : List (Nat × Ltr)}
def goL (sc : Nat → Int32) (row : List Ltr) : Nat → Int32 := if row.length = 400 then va_up sc 1 (sc 1 + 1) else sc
def goR (row : List Ltr) (t : Ltr) : List Ltr := if row.length = 400 then row else row ++ [t]
def dst (l fr : Nat) : Nat := if fr ≤ l then l - fr else 4700 - fr + l
theorem m_seek {K : Nat → Int32 → Int32 → Int32 → Wd → Option (Int32 × Wd)} {P : Int32 → Wd → Prop} {x1 x2 x3 : Int32} {l : Nat} (hl : l < 4700) : ∀ (n fr : Nat) (w : Wd), dst l fr < n → isM w m → fr < 4700 → wI w m 48 = nI fr → wI w (m + 24) l = 0 →
    (∀ (w' : Wd) (f' : Nat), Mx m (fun q => q = m) w w' → (∀ k, k ≠ 48 → wI w' m k = wI w m k) → f' < 4700 → wI w' m 48 = nI f' → wI w' (m + 24) f' = 0 → ok (K m x1 x2 x3 w') P) → ok (f_X6_letter_0 K n m x1 x2 x3 w) P := by
  intro n
  induction n with
  | zero => intro fr w h; omega
  | succ n ih =>
    intro fr w hd hM hfr h48 h0 hK
    obtain ⟨r30, k30, n30⟩ := M_used hM
    rw [f_X6_letter_0.eq_2]
    refine ok_gR hM.1 r30 (ok_gI hM.1 h48 (ok_aI rfl k30 (by omega) (by omega) rfl (ok_if (fun c => ?_) (fun c => ?_))))
    · exact hK w fr (Mx.rf (fun q hq => by omega)) (fun _ _ => rfl) hfr h48 c
    · have hne : fr ≠ l := fun e => c (by rw [e]; exact h0)
      have step : ∀ f2, f2 < 4700 → dst l f2 < n → ok (f_X6_letter_33 (f_X6_letter_0 K n) m x1 x2 x3 (some m) (nI f2) w) P := by
        intro f2 hf2 hd2
        unfold f_X6_letter_33
        refine ok_pI hM.1 (ih f2 _ hd2 hM hf2 (by simp [wI_s]) (by rw [wI_so (by omega)]; exact h0) (fun w' f' g e a1 a2 a3 => hK w' f' (((Mx.rf (X := fun q => q = m) (fun q hq => by omega)).sI rfl).tr g) (fun k hk => by rw [e k hk, wI_s, if_neg (fun z => hk z.2)]) a1 a2 a3))
      refine ok_gI hM.1 h48 (ok_if (fun c1 => ?_) (fun c1 => ok_gI hM.1 h48 ?_))
      · rw [show (4699 : Int32) = nI 4699 from rfl, nI_eq (by omega) (by omega)] at c1
        refine step 0 (by omega) ?_
        unfold dst at hd ⊢
        rw [if_neg (by omega)] at hd
        rw [if_pos (by omega)]
        omega
      · rw [show (4699 : Int32) = nI 4699 from rfl, nI_eq (by omega) (by omega)] at c1
        rw [nI_1]
        refine step (fr + 1) (by omega) ?_
        unfold dst at hd ⊢
        by_cases h9 : fr ≤ l
        · rw [if_pos h9] at hd
          rw [if_pos (by omega)]
          omega
        · rw [if_neg h9] at hd
          rw [if_neg (by omega)]
          omega
theorem m_letter (h : RMF w m S le sc cl mem kept up dy row held fl) (h4 : S ≤ 4) (hfl : fl.length ≤ 600) (a b c : Int32) : ok (f_X6_letter m a b c w) (fun v w' => ∃ l, v = nI l ∧ l < 4700 ∧ wI w (m + 24) l = 0 ∧ SlotF m l w w' ∧ (wI w' (m + 24) l = 1 ∧ wI w' (m + 25) l = a ∧ wI w' (m + 26) l = b ∧ wI w' (m + 27) l = c) ∧ (wI w' (m + 28) l = 0 ∧ wI w' (m + 29) l = 0 ∧ wI w' (m + 30) l = 0 ∧ wI w' (m + 31) l = 0 ∧ wI w' (m + 32) l = 0) ∧ wL w' (m + 33) l = 0 ∧ wL w' (m + 34) l = 0) := by
  obtain ⟨l0, hl0, hu0⟩ := h.slot h4 hfl
  obtain ⟨fr, hfr, h48⟩ := h.1.2.2.2.2.2.2.2.2
  unfold f_X6_letter
  refine m_seek hl0 FU fr w (by unfold FU dst; split <;> omega) h.1.1 hfr h48 hu0 (fun w1 l g e hl h48' hu => ?_)
  have hM : isM w1 m := h.1.1.f g.mf
  have m0 := hM.1
  unfold f_X6_letter_39
  refine ok_gI m0 h48' (ok_mR hM 24 (ok_mTZ hM rfl hl (Or.inr rfl) (fun hM => ?_)))
  refine ok_mR hM 25 (ok_mT hM rfl hl (fun hM => ?_))
  refine ok_mR hM 26 (ok_mT hM rfl hl (fun hM => ?_))
  refine ok_mR hM 27 (ok_mT hM rfl hl (fun hM => ?_))
  refine ok_mR hM 28 (ok_mT hM rfl hl (fun hM => ?_))
  refine ok_mR hM 29 (ok_mT hM rfl hl (fun hM => ?_))
  refine ok_mR hM 30 (ok_mT hM rfl hl (fun hM => ?_))
  refine ok_mR hM 31 (ok_mT hM rfl hl (fun hM => ?_))
  refine ok_mR hM 32 (ok_mT hM rfl hl (fun hM => ?_))
  refine ok_mR hM 33 (ok_mTL hM rfl hl (fun hM => ?_))
  refine ok_mR hM 34 (ok_mTL hM rfl hl (fun hM => ?_))
  have g0 : SlotF m l w w1 := ⟨g.mono (fun q hq => Or.inl hq) (fun q hq => by omega), e, ⟨l, hl, h48'⟩, fun j i _ _ _ => ⟨by rw [g.I (by omega)], by rw [g.L (by omega)]⟩, fun i _ => by rw [g.L (by omega)], fun j i _ _ _ => ⟨by rw [g.I (by omega)], by rw [g.L (by omega)]⟩, fun j i _ _ _ => by rw [g.I (by omega)]⟩
  refine ok_ret ⟨l, rfl, hl, by rw [← g.I (q := m + 24) (by omega)]; exact hu, ?_, ?_, ?_, ?_⟩
  · exact ((((((((((g0.sI (by omega) (by omega)).sI (by omega) (by omega)).sI (by omega) (by omega)).sI (by omega) (by omega)).sI (by omega) (by omega)).sI (by omega) (by omega)).sI (by omega) (by omega)).sI (by omega) (by omega)).sI (by omega) (by omega)).sL (by omega) (by omega)).sL (by omega) (by omega)
  · simp [wI_s, (wsL _ _ _ _).2.2.2.1]
  · simp [wI_s, (wsL _ _ _ _).2.2.2.1]
  · simp [wL_s]
end LE
