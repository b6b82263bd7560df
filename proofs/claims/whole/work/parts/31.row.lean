/-! ROWS OF LETTERS (class Row): a row at a, its array at a + 1, of cap places; it holds the letters Ls -/
def isRow (w : Wd) (a cap : Nat) (Ls : List Nat) : Prop := wK w a = 4 ∧ wR w a 0 = some (a + 1) ∧ wK w (a + 1) = 105 ∧ wN w (a + 1) = cap ∧ wI w a 1 = nI Ls.length ∧ Ls.length ≤ cap ∧ cap ≤ 1000 ∧ (∀ i x, Ls[i]? = some x → wR w (a + 1) i = some x) ∧ ∀ x, x ∈ Ls → wK w x = 3
def rowGet (Ls : List Nat) (i : Int32) : Option Nat := if i < 0 then none else Ls[i.toNatClampNeg]?
theorem nn_of {x : Int32} (h : ¬ x < 0) : x = nI x.toNatClampNeg ∧ x.toNatClampNeg < 2 ^ 31 := by
  obtain ⟨j, hj, rfl⟩ := nI_of h
  rw [nI_clamp hj]
  exact ⟨rfl, hj⟩
theorem row_at {w : Wd} {a cap : Nat} {Ls : List Nat} (h : isRow w a cap Ls) (i : Int32) : f_X3_at a i w = some (rowGet Ls i, w) := by
  obtain ⟨k1, r1, k2, n2, s1, hle, hc, hg, -⟩ := h
  suffices ok (f_X3_at a i w) (fun v w' => v = rowGet Ls i ∧ w' = w) by
    obtain ⟨v, w', e, rfl, rfl⟩ := this
    exact e
  unfold f_X3_at rowGet
  refine ok_if (fun c => ?_) (fun c => ?_)
  · rw [if_pos c]; exact ok_ret ⟨rfl, rfl⟩
  · rw [if_neg c]
    obtain ⟨e1, e2⟩ := nn_of c
    refine ok_gI k1 s1 (ok_if (fun c2 => ?_) (fun c2 => ?_))
    · rw [e1, nI_leI (by omega) e2] at c2
      rw [List.getElem?_eq_none c2]
      exact ok_ret ⟨rfl, rfl⟩
    · rw [e1, nI_leI (by omega) e2] at c2
      have hlt : i.toNatClampNeg < Ls.length := by omega
      refine ok_gR k1 r1 (ok_aR e1 k2 (by omega) e2 (hg _ _ (List.getElem?_eq_getElem hlt)) (ok_ret ⟨?_, rfl⟩))
      rw [List.getElem?_eq_getElem hlt]
theorem row_app {w : Wd} {a cap : Nat} {Ls : List Nat} (h : isRow w a cap Ls) {x : Nat} (hx : wK w x = 3) (hlt : Ls.length < cap) : f_X3_append a (some x) w = some (1, sI (sR w (a + 1) Ls.length (some x)) a 1 (nI (Ls.length + 1))) ∧ isRow (sI (sR w (a + 1) Ls.length (some x)) a 1 (nI (Ls.length + 1))) a cap (Ls ++ [x]) := by
  obtain ⟨k1, r1, k2, n2, s1, hle, hc, hg, hK⟩ := h
  constructor
  · suffices ok (f_X3_append a (some x) w) (fun v w' => v = 1 ∧ w' = sI (sR w (a + 1) Ls.length (some x)) a 1 (nI (Ls.length + 1))) by
      obtain ⟨v, w', e, rfl, rfl⟩ := this
      exact e
    unfold f_X3_append
    refine ok_gI k1 s1 (ok_gR k1 r1 (ok_gN k2 rfl (ok_t ?_ (ok_gR k1 r1 (ok_gI k1 s1 (ok_tR rfl k2 (by omega) (by omega) (Or.inr ⟨x, rfl, hx⟩) (ok_gI k1 s1 (ok_pI k1 (ok_z (Or.inr rfl) ⟨rfl, ?_⟩)))))))))
    · rw [n2, nI_ltI (by omega) (by omega)]; exact hlt
    · rw [nI_1]
  · refine ⟨k1, ?_, k2, n2, ?_, ?_, hc, ?_, ?_⟩
    · show wR (sR w (a + 1) Ls.length (some x)) a 0 = _
      rw [wR_s, if_neg (by omega)]; exact r1
    · rw [wI_s, if_pos ⟨rfl, rfl⟩, List.length_append]; rfl
    · rw [List.length_append]; exact hlt
    · intro i y hy
      show wR (sR w (a + 1) Ls.length (some x)) (a + 1) i = _
      rw [wR_s]
      by_cases hi : i = Ls.length
      · subst hi
        rw [List.getElem?_append_right (Nat.le_refl _), Nat.sub_self] at hy
        rw [if_pos ⟨rfl, rfl⟩]
        exact hy
      · rw [if_neg (fun z => hi z.2)]
        by_cases hl : i < Ls.length
        · rw [List.getElem?_append_left hl] at hy
          exact hg i y hy
        · rw [List.getElem?_eq_none (by rw [List.length_append]; simp; omega)] at hy
          cases hy
    · intro y hy
      show wK w y = 3
      rcases List.mem_append.mp hy with h | h
      · exact hK y h
      · rw [List.mem_singleton.mp h]; exact hx
theorem row_full {w : Wd} {a cap : Nat} {Ls : List Nat} (h : isRow w a cap Ls) (x : Option Nat) (hlt : Ls.length = cap) : f_X3_append a x w = some (0, w) := by
  obtain ⟨k1, r1, k2, n2, s1, hle, hc, hg, hK⟩ := h
  suffices ok (f_X3_append a x w) (fun v w' => v = 0 ∧ w' = w) by
    obtain ⟨v, w', e, rfl, rfl⟩ := this
    exact e
  unfold f_X3_append
  refine ok_gI k1 s1 (ok_gR k1 r1 (ok_gN k2 rfl (ok_f ?_ (ok_z (Or.inl rfl) ⟨rfl, rfl⟩))))
  rw [n2, nI_ltI (by omega) (by omega)]; omega
/-- the shift to the left: all from j on by one -/
theorem row_shift {a cap : Nat} {len : Nat} (hlc : len ≤ cap) (hc : cap ≤ 1000) (K : Nat → Wd → Option (Unit × Wd)) (P : Unit → Wd → Prop) :
    ∀ (n j : Nat) (w : Wd), len < n + j → 1 ≤ j → j ≤ len → wK w a = 4 → wR w a 0 = some (a + 1) → wK w (a + 1) = 105 → wN w (a + 1) = cap → wI w a 1 = nI len → (∀ i, i < len → ∃ x, wR w (a + 1) i = some x ∧ wK w x = 3) →
      (∀ w', wn w' = wn w → wK w' = wK w → wN w' = wN w → wI w' = wI w → wL w' = wL w → (∀ i, i < j - 1 → wR w' (a + 1) i = wR w (a + 1) i) → (∀ i, j - 1 ≤ i → i + 1 < len → wR w' (a + 1) i = wR w (a + 1) (i + 1)) → (∀ q, q ≠ a + 1 → wR w' q = wR w q) → ok (K a w') P) →
      ok (f_X3_removeAt_17 K n a (nI j) w) P := by
  intro n
  induction n with
  | zero => intro j w h1 h2 h3; omega
  | succ n ih =>
    intro j w h1 h2 h3 k1 r1 k2 n2 s1 hx hP
    rw [f_X3_removeAt_17.eq_2]
    refine ok_gI k1 s1 (ok_if (fun c => ?_) (fun c => ?_))
    · rw [nI_leI (by omega) (by omega)] at c
      exact hP w rfl rfl rfl rfl rfl (fun _ _ => rfl) (fun i h4 h5 => by omega) (fun _ _ => rfl)
    · rw [nI_leI (by omega) (by omega)] at c
      obtain ⟨x, hx1, hx2⟩ := hx j (by omega)
      refine ok_gR k1 r1 (ok_gR k1 r1 (ok_aR rfl k2 (by omega) (by omega) hx1 (ok_tR (n := j - 1) ?_ k2 (by omega) (by omega) (Or.inr ⟨x, rfl, hx2⟩) ?_)))
      · obtain ⟨j, rfl⟩ : ∃ q, j = q + 1 := ⟨j - 1, by omega⟩
        rw [nI_pred]; rfl
      · rw [nI_1]
        refine ih (j + 1) _ (by omega) (by omega) (by omega) k1 ?_ k2 n2 s1 (fun i hi => ?_) (fun w' e1 e2 e3 e4 e5 g1 g2 g3 => ?_)
        · rw [wR_s, if_neg (by omega)]; exact r1
        · rw [wR_s]
          by_cases hij : i = j - 1
          · rw [if_pos ⟨rfl, hij⟩]; exact ⟨x, rfl, hx2⟩
          · rw [if_neg (fun z => hij z.2)]; exact hx i hi
        · refine hP w' e1 e2 e3 e4 e5 (fun i hi => ?_) (fun i h4 h5 => ?_) (fun q hq => ?_)
          · rw [g1 i (by omega), wR_s, if_neg (by omega)]
          · by_cases hij : i = j - 1
            · rw [g1 i (by omega), wR_s, if_pos ⟨rfl, hij⟩, hij, ← hx1]
              congr 1
              omega
            · rw [g2 i (by omega) h5, wR_s, if_neg (by omega)]
          · rw [g3 q hq]; exact up2_n _ _ _ hq
theorem row_rm {w : Wd} {a cap : Nat} {Ls : List Nat} (h : isRow w a cap Ls) {j : Nat} (hj : j < Ls.length) : ok (f_X3_removeAt a (nI j) w) (fun _ w' => isRow w' a cap (Ls.eraseIdx j) ∧ wn w' = wn w ∧ wK w' = wK w ∧ wN w' = wN w ∧ wL w' = wL w ∧ (∀ q, q ≠ a → wI w' q = wI w q) ∧ (∀ q, q ≠ a + 1 → wR w' q = wR w q)) := by
  obtain ⟨k1, r1, k2, n2, s1, hle, hc, hg, hK⟩ := h
  unfold f_X3_removeAt
  refine ok_f (nI_pos (by omega)) (ok_gI k1 s1 (ok_t ?_ ?_))
  · rw [nI_ltI (by omega) (by omega)]; exact hj
  · rw [nI_1]
    refine row_shift hle hc _ _ FU (j + 1) w (by unfold FU; omega) (by omega) (by omega) k1 r1 k2 n2 s1 (fun i hi => ⟨_, hg i _ (List.getElem?_eq_getElem hi), hK _ (List.getElem_mem hi)⟩) (fun w' e1 e2 e3 e4 e5 g1 g2 g3 => ?_)
    unfold f_X3_removeAt_45
    have k1' : wK w' a = 4 := by rw [e2]; exact k1
    have k2' : wK w' (a + 1) = 105 := by rw [e2]; exact k2
    have r1' : wR w' a 0 = some (a + 1) := by rw [g3 a (by omega)]; exact r1
    have s1' : wI w' a 1 = nI Ls.length := by rw [e4]; exact s1
    have hs : nI Ls.length - 1 = nI (Ls.length - 1) := by
      obtain ⟨q, hq⟩ : ∃ q, Ls.length = q + 1 := ⟨Ls.length - 1, by omega⟩
      rw [hq, nI_pred]; rfl
    refine ok_gI k1' s1' (ok_pI k1' (ok_gR k1' r1' (ok_gI (v := nI (Ls.length - 1)) k1' ?_ (ok_tR (n := Ls.length - 1) rfl k2' ?_ ?_ (Or.inl rfl) (ok_ret ⟨⟨k1', ?_, k2', ?_, ?_, ?_, hc, ?_, ?_⟩, e1, e2, e3, e5, ?_, ?_⟩)))))
    · rw [hs, wI_s, if_pos ⟨rfl, rfl⟩]
    · show Ls.length - 1 < wN w' (a + 1)
      rw [e3, n2]; omega
    · omega
    · rw [wR_s, if_neg (by omega)]; exact r1'
    · show wN w' (a + 1) = cap
      rw [e3]; exact n2
    · show wI (sI w' a 1 _) a 1 = _
      rw [wI_s, if_pos ⟨rfl, rfl⟩, hs, List.length_eraseIdx_of_lt hj]
    · rw [List.length_eraseIdx_of_lt hj]; omega
    · intro i x hx
      have hi : i < Ls.length - 1 := by
        have := (List.getElem?_eq_some_iff.mp hx).1
        rwa [List.length_eraseIdx_of_lt hj] at this
      rw [wR_s, if_neg (by omega)]
      show wR w' (a + 1) i = some x
      rw [List.getElem?_eraseIdx] at hx
      by_cases hij : i < j
      · rw [if_pos hij] at hx
        rw [g1 i (by omega)]; exact hg i x hx
      · rw [if_neg hij] at hx
        rw [g2 i (by omega) (by omega)]; exact hg (i + 1) x hx
    · intro x hx
      show wK w' x = 3
      rw [e2]
      exact hK x (List.mem_of_mem_eraseIdx hx)
    · intro q hq
      show wI (sI w' a 1 _) q = _
      rw [show wI (sI w' a 1 (nI Ls.length - 1)) q = wI w' q from up2_n _ _ _ hq, e4]
    · intro q hq
      rw [show wR (sR _ (a + 1) (Ls.length - 1) none) q = _ from up2_n _ _ _ hq]
      exact g3 q hq
theorem row_clear {a cap len : Nat} (hlc : len ≤ cap) (hc : cap ≤ 1000) : ∀ (n j : Nat) (w : Wd), len < n + j → j ≤ len → wK w a = 4 → wR w a 0 = some (a + 1) → wK w (a + 1) = 105 → wN w (a + 1) = cap → wI w a 1 = nI len → ok (f_X3_clear_2 n a (nI j) w) (fun _ w' => isRow w' a cap [] ∧ wn w' = wn w ∧ wK w' = wK w ∧ wN w' = wN w ∧ wL w' = wL w ∧ (∀ q, q ≠ a → wI w' q = wI w q) ∧ (∀ q, q ≠ a + 1 → wR w' q = wR w q)) := by
  intro n
  induction n with
  | zero => intro j w h1 h2; omega
  | succ n ih =>
    intro j w h1 h2 k1 r1 k2 n2 s1
    rw [f_X3_clear_2.eq_2]
    refine ok_gI k1 s1 (ok_if (fun c => ?_) (fun c => ?_))
    · refine ok_pI k1 (ok_ret ⟨⟨k1, r1, k2, n2, ?_, Nat.zero_le _, hc, fun i x h => by simp at h, fun x h => by simp at h⟩, rfl, rfl, rfl, rfl, fun q hq => up2_n _ _ _ hq, fun _ _ => rfl⟩)
      rw [wI_s, if_pos ⟨rfl, rfl⟩]; exact nI_0.symm
    · rw [nI_leI (by omega) (by omega)] at c
      refine ok_gR k1 r1 (ok_tR rfl k2 (by omega) (by omega) (Or.inl rfl) ?_)
      rw [nI_1]
      refine ok_mono (ih (j + 1) _ (by omega) (by omega) k1 ?_ k2 n2 s1) (fun _ w' h => ⟨h.1, h.2.1, h.2.2.1, h.2.2.2.1, h.2.2.2.2.1, h.2.2.2.2.2.1, fun q hq => ?_⟩)
      · rw [wR_s, if_neg (by omega)]; exact r1
      · rw [h.2.2.2.2.2.2 q hq]; exact up2_n _ _ _ hq
