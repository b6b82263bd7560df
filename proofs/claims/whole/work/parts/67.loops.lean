/-! THE REFERENCE'S COPYING LOOPS (by wip/whole/loops.py) -/
section LO
variable {w : Wd} {m : Nat}
def rec4 (w : Wd) (m D a i : Nat) : Rec := (wI w (m + D) (12 * a + i), wI w (m + (D + 1)) (12 * a + i), wI w (m + (D + 2)) (12 * a + i), wL w (m + (D + 3)) (12 * a + i))
theorem l_twin_156 {x1 x2 x3 : Int32} {sa da : Nat} (hs : sa < 4700) (hd : da < 4700) (hne : sa ≠ da) {K : Nat → Int32 → Int32 → Wd → Option (Int32 × Wd)} {P : Int32 → Wd → Prop} : ∀ (n j : Nat) (w : Wd), 4 < n + j → j ≤ 4 → isM w m → (∀ w', isM w' m → Mx m (fun q => q = m + 35) w w' → wI w' = wI w → (∀ i, (i < 4 * da ∨ 4 * da + 4 ≤ i) → wL w' (m + 35) i = wL w (m + 35) i) → (∀ k, k < 4 → j ≤ k → wL w' (m + 35) (4 * da + k) = wL w (m + 35) (4 * sa + k)) → (∀ k, k < j → wL w' (m + 35) (4 * da + k) = wL w (m + 35) (4 * da + k)) → ok (K m (nI sa) (nI da) w') P) → ok (f_X6_twin_156 K n m (nI sa) (nI da) (nI j) w) P := by
  intro n
  induction n with
  | zero => intro j w a b; omega
  | succ n ih =>
    intro j w a b hM hK
    rw [f_X6_twin_156.eq_2]
    refine ok_if (fun c => ?_) (fun c => ?_)
    · rw [show (4 : Int32) = nI 4 from rfl, nI_leI (by omega) (by omega)] at c
      exact hK w hM (Mx.rf (fun q hq => by omega)) rfl (fun _ _ => rfl) (fun k a b => by omega) (fun _ _ => rfl)
    · rw [show (4 : Int32) = nI 4 from rfl, nI_leI (by omega) (by omega)] at c
      refine ok_mR hM 35 <| ok_mR hM 35 <| ok_mAL hM (i4 sa j) (by show _ < 18800; omega) rfl <| ok_mTL hM (i4 da j) (by show _ < 18800; omega) (fun hM1 => ?_)
      rw [nI_1]
      refine ih (j + 1) _ (by omega) (by omega) hM1 (fun w' q1 q2 q3 q4 q5 q6 => hK w' q1 (((Mx.rf (X := fun q => q = m + 35) (fun q hq => by omega)).sL rfl).tr q2) q3 (fun i hi => by rw [q4 i hi, wL_s, if_neg (by omega)]) (fun k a b => ?_) (fun k a => by rw [q6 k (by omega), wL_s, if_neg (by omega)]))
      by_cases e : k = j
      · subst e; rw [q6 k (by omega), wL_s, if_pos ⟨rfl, rfl⟩]
      · rw [q5 k a (by omega), wL_s, if_neg (by rcases Nat.lt_or_gt_of_ne hne with z | z <;> omega)]
theorem l_twin_193 {x1 x2 x3 : Int32} {sa da : Nat} (hs : sa < 4700) (hd : da < 4700) (hne : sa ≠ da) {K : Nat → Int32 → Int32 → Wd → Option (Int32 × Wd)} {P : Int32 → Wd → Prop} : ∀ (n j : Nat) (w : Wd), 12 < n + j → j ≤ 12 → isM w m → (∀ w', isM w' m → Mx m (fun q => m + 36 ≤ q ∧ q ≤ m + 39) w w' → (∀ p i, 36 ≤ p → p ≤ 39 → (i < 12 * da ∨ 12 * da + 12 ≤ i) → wI w' (m + p) i = wI w (m + p) i ∧ wL w' (m + p) i = wL w (m + p) i) → (∀ k, k < 12 → j ≤ k → rec4 w' m 36 da k = rec4 w m 36 sa k) → (∀ k, k < j → rec4 w' m 36 da k = rec4 w m 36 da k) → ok (K m (nI sa) (nI da) w') P) → ok (f_X6_twin_193 K n m (nI sa) (nI da) (nI j) w) P := by
  intro n
  induction n with
  | zero => intro j w a b; omega
  | succ n ih =>
    intro j w a b hM hK
    rw [f_X6_twin_193.eq_2]
    refine ok_if (fun c => ?_) (fun c => ?_)
    · rw [show (12 : Int32) = nI 12 from rfl, nI_leI (by omega) (by omega)] at c
      exact hK w hM (Mx.rf (fun q hq => by omega)) (fun _ _ _ _ _ => ⟨rfl, rfl⟩) (fun k a b => by omega) (fun _ _ => rfl)
    · rw [show (12 : Int32) = nI 12 from rfl, nI_leI (by omega) (by omega)] at c
      refine ok_mR hM 36 <| ok_mR hM 36 <| ok_mA (v := wI w (m + 36) (12 * sa + j)) hM (i12 sa j) (by show _ < 56400; omega) rfl <| ok_mT hM (i12 da j) (by show _ < 56400; omega) (fun hM1 => ?_)
      refine ok_mR hM1 37 <| ok_mR hM1 37 <| ok_mA (v := wI w (m + 37) (12 * sa + j)) hM1 (i12 sa j) (by show _ < 56400; omega) (by rw [wI_so (by omega)]) <| ok_mT hM1 (i12 da j) (by show _ < 56400; omega) (fun hM2 => ?_)
      refine ok_mR hM2 38 <| ok_mR hM2 38 <| ok_mA (v := wI w (m + 38) (12 * sa + j)) hM2 (i12 sa j) (by show _ < 56400; omega) (by rw [wI_so (by omega), wI_so (by omega)]) <| ok_mT hM2 (i12 da j) (by show _ < 56400; omega) (fun hM3 => ?_)
      refine ok_mR hM3 39 <| ok_mR hM3 39 <| ok_mAL (v := wL w (m + 39) (12 * sa + j)) hM3 (i12 sa j) (by show _ < 56400; omega) rfl <| ok_mTL hM3 (i12 da j) (by show _ < 56400; omega) (fun hM4 => ?_)
      rw [nI_1]
      have hx : Mx m (fun q => m + 36 ≤ q ∧ q ≤ m + 39) w (sL (sI (sI (sI w (m + 36) (12 * da + j) (wI w (m + 36) (12 * sa + j))) (m + 37) (12 * da + j) (wI w (m + 37) (12 * sa + j))) (m + 38) (12 * da + j) (wI w (m + 38) (12 * sa + j))) (m + 39) (12 * da + j) (wL w (m + 39) (12 * sa + j))) := ((((Mx.rf (fun q hq => by omega)).sI (by omega)).sI (by omega)).sI (by omega)).sL (by omega)
      have ho : ∀ p i, i ≠ 12 * da + j → wI (sL (sI (sI (sI w (m + 36) (12 * da + j) (wI w (m + 36) (12 * sa + j))) (m + 37) (12 * da + j) (wI w (m + 37) (12 * sa + j))) (m + 38) (12 * da + j) (wI w (m + 38) (12 * sa + j))) (m + 39) (12 * da + j) (wL w (m + 39) (12 * sa + j))) p i = wI w p i ∧ wL (sL (sI (sI (sI w (m + 36) (12 * da + j) (wI w (m + 36) (12 * sa + j))) (m + 37) (12 * da + j) (wI w (m + 37) (12 * sa + j))) (m + 38) (12 * da + j) (wI w (m + 38) (12 * sa + j))) (m + 39) (12 * da + j) (wL w (m + 39) (12 * sa + j))) p i = wL w p i := by
        intro p i hi
        simp only [wI_s, wL_s, (wsL _ _ _ _).2.2.2.1, (wsI _ _ _ _).2.2.2.1]
        rw [if_neg (fun z => hi z.2), if_neg (fun z => hi z.2), if_neg (fun z => hi z.2), if_neg (fun z => hi z.2)]
        exact ⟨rfl, rfl⟩
      have hj : rec4 (sL (sI (sI (sI w (m + 36) (12 * da + j) (wI w (m + 36) (12 * sa + j))) (m + 37) (12 * da + j) (wI w (m + 37) (12 * sa + j))) (m + 38) (12 * da + j) (wI w (m + 38) (12 * sa + j))) (m + 39) (12 * da + j) (wL w (m + 39) (12 * sa + j))) m 36 da j = rec4 w m 36 sa j := by
        simp [rec4, wI_s, wL_s, (wsL _ _ _ _).2.2.2.1, (wsI _ _ _ _).2.2.2.1]
      generalize sL (sI (sI (sI w (m + 36) (12 * da + j) (wI w (m + 36) (12 * sa + j))) (m + 37) (12 * da + j) (wI w (m + 37) (12 * sa + j))) (m + 38) (12 * da + j) (wI w (m + 38) (12 * sa + j))) (m + 39) (12 * da + j) (wL w (m + 39) (12 * sa + j)) = w9 at hM4 hx ho hj ⊢
      have hr : ∀ D' a' k, 12 * a' + k ≠ 12 * da + j → rec4 w9 m D' a' k = rec4 w m D' a' k := by
        intro D' a' k hk
        unfold rec4
        rw [(ho (m + D') _ hk).1, (ho (m + (D' + 1)) _ hk).1, (ho (m + (D' + 2)) _ hk).1, (ho (m + (D' + 3)) _ hk).2]
      refine ih (j + 1) w9 (by omega) (by omega) hM4 (fun w' q1 q2 q3 q4 q5 => hK w' q1 (hx.tr q2) (fun p i p1 p2 hi => ⟨(q3 p i p1 p2 hi).1.trans (ho _ i (by omega)).1, (q3 p i p1 p2 hi).2.trans (ho _ i (by omega)).2⟩) (fun k a b => ?_) (fun k a => by rw [q5 k (by omega), hr 36 da k (by omega)]))
      by_cases e : k = j
      · subst e; rw [q5 k (by omega), hj]
      · rw [q4 k a (by omega)]
        exact hr 36 sa k (by rcases Nat.lt_or_gt_of_ne hne with z | z <;> omega)
theorem l_twin_305 {x1 x2 x3 : Int32} {sa da : Nat} (hs : sa < 4700) (hd : da < 4700) (hne : sa ≠ da) {K : Nat → Int32 → Int32 → Wd → Option (Int32 × Wd)} {P : Int32 → Wd → Prop} : ∀ (n j : Nat) (w : Wd), 6 < n + j → j ≤ 6 → isM w m → (∀ w', isM w' m → Mx m (fun q => q = m + 40 ∨ q = m + 41) w w' → wL w' = wL w → (∀ p i, p = 40 ∨ p = 41 → (i < 6 * da ∨ 6 * da + 6 ≤ i) → wI w' (m + p) i = wI w (m + p) i) → (∀ k, k < 6 → j ≤ k → wI w' (m + 40) (6 * da + k) = wI w (m + 40) (6 * sa + k) ∧ wI w' (m + 41) (6 * da + k) = wI w (m + 41) (6 * sa + k)) → (∀ k, k < j → wI w' (m + 40) (6 * da + k) = wI w (m + 40) (6 * da + k) ∧ wI w' (m + 41) (6 * da + k) = wI w (m + 41) (6 * da + k)) → ok (K m (nI sa) (nI da) w') P) → ok (f_X6_twin_305 K n m (nI sa) (nI da) (nI j) w) P := by
  intro n
  induction n with
  | zero => intro j w a b; omega
  | succ n ih =>
    intro j w a b hM hK
    rw [f_X6_twin_305.eq_2]
    refine ok_if (fun c => ?_) (fun c => ?_)
    · rw [show (6 : Int32) = nI 6 from rfl, nI_leI (by omega) (by omega)] at c
      exact hK w hM (Mx.rf (fun q hq => by omega)) rfl (fun _ _ _ _ => rfl) (fun k a b => by omega) (fun _ _ => ⟨rfl, rfl⟩)
    · rw [show (6 : Int32) = nI 6 from rfl, nI_leI (by omega) (by omega)] at c
      refine ok_mR hM 40 <| ok_mR hM 40 <| ok_mA (v := wI w (m + 40) (6 * sa + j)) hM (i6' sa j) (by show _ < 28200; omega) rfl <| ok_mT hM (i6' da j) (by show _ < 28200; omega) (fun hM1 => ?_)
      refine ok_mR hM1 41 <| ok_mR hM1 41 <| ok_mA (v := wI w (m + 41) (6 * sa + j)) hM1 (i6' sa j) (by show _ < 28200; omega) (by rw [wI_so (by omega)]) <| ok_mT hM1 (i6' da j) (by show _ < 28200; omega) (fun hM2 => ?_)
      rw [nI_1]
      have hx : Mx m (fun q => q = m + 40 ∨ q = m + 41) w (sI (sI w (m + 40) (6 * da + j) (wI w (m + 40) (6 * sa + j))) (m + 41) (6 * da + j) (wI w (m + 41) (6 * sa + j))) := ((Mx.rf (fun q hq => by omega)).sI (by omega)).sI (by omega)
      have ho : ∀ p i, i ≠ 6 * da + j → wI (sI (sI w (m + 40) (6 * da + j) (wI w (m + 40) (6 * sa + j))) (m + 41) (6 * da + j) (wI w (m + 41) (6 * sa + j))) p i = wI w p i := by
        intro p i hi
        rw [wI_s, if_neg (fun z => hi z.2), wI_s, if_neg (fun z => hi z.2)]
      have hj : wI (sI (sI w (m + 40) (6 * da + j) (wI w (m + 40) (6 * sa + j))) (m + 41) (6 * da + j) (wI w (m + 41) (6 * sa + j))) (m + 40) (6 * da + j) = wI w (m + 40) (6 * sa + j) ∧ wI (sI (sI w (m + 40) (6 * da + j) (wI w (m + 40) (6 * sa + j))) (m + 41) (6 * da + j) (wI w (m + 41) (6 * sa + j))) (m + 41) (6 * da + j) = wI w (m + 41) (6 * sa + j) := by simp [wI_s]
      have hl : wL (sI (sI w (m + 40) (6 * da + j) (wI w (m + 40) (6 * sa + j))) (m + 41) (6 * da + j) (wI w (m + 41) (6 * sa + j))) = wL w := rfl
      generalize (sI (sI w (m + 40) (6 * da + j) (wI w (m + 40) (6 * sa + j))) (m + 41) (6 * da + j) (wI w (m + 41) (6 * sa + j))) = w9 at hM2 hx ho hj hl ⊢
      refine ih (j + 1) w9 (by omega) (by omega) hM2 (fun w' q1 q2 q3 q4 q5 q6 => hK w' q1 (hx.tr q2) (q3.trans hl) (fun p i p1 hi => (q4 p i p1 hi).trans (ho _ i (by omega))) (fun k a b => ?_) (fun k a => by rw [(q6 k (by omega)).1, (q6 k (by omega)).2, ho _ _ (by omega), ho _ _ (by omega)]; exact ⟨rfl, rfl⟩))
      by_cases e : k = j
      · subst e; rw [(q6 k (by omega)).1, (q6 k (by omega)).2]; exact hj
      · rw [(q5 k a (by omega)).1, (q5 k a (by omega)).2]
        rw [ho _ _ (by rcases Nat.lt_or_gt_of_ne hne with z | z <;> omega), ho _ _ (by rcases Nat.lt_or_gt_of_ne hne with z | z <;> omega)]; exact ⟨rfl, rfl⟩
theorem l_copy_83 {x1 x2 x3 : Int32} {sa da : Nat} (hs : sa < 64) (hd : da < 64) (hne : sa ≠ da) {K : Nat → Int32 → Int32 → Int32 → Int32 → Int32 → Wd → Option (Unit × Wd)} {P : Unit → Wd → Prop} : ∀ (n j : Nat) (w : Wd), 4 < n + j → j ≤ 4 → isM w m → (∀ w', isM w' m → Mx m (fun q => q = m + 14) w w' → wI w' = wI w → (∀ i, (i < 4 * da ∨ 4 * da + 4 ≤ i) → wL w' (m + 14) i = wL w (m + 14) i) → (∀ k, k < 4 → j ≤ k → wL w' (m + 14) (4 * da + k) = wL w (m + 14) (4 * sa + k)) → (∀ k, k < j → wL w' (m + 14) (4 * da + k) = wL w (m + 14) (4 * da + k)) → ok (K m x1 x2 x3 (nI sa) (nI da) w') P) → ok (f_X6_copy_83 K n m x1 x2 x3 (nI sa) (nI da) (nI j) w) P := by
  intro n
  induction n with
  | zero => intro j w a b; omega
  | succ n ih =>
    intro j w a b hM hK
    rw [f_X6_copy_83.eq_2]
    refine ok_if (fun c => ?_) (fun c => ?_)
    · rw [show (4 : Int32) = nI 4 from rfl, nI_leI (by omega) (by omega)] at c
      exact hK w hM (Mx.rf (fun q hq => by omega)) rfl (fun _ _ => rfl) (fun k a b => by omega) (fun _ _ => rfl)
    · rw [show (4 : Int32) = nI 4 from rfl, nI_leI (by omega) (by omega)] at c
      refine ok_mR hM 14 <| ok_mR hM 14 <| ok_mAL hM (i4 sa j) (by show _ < 256; omega) rfl <| ok_mTL hM (i4 da j) (by show _ < 256; omega) (fun hM1 => ?_)
      rw [nI_1]
      refine ih (j + 1) _ (by omega) (by omega) hM1 (fun w' q1 q2 q3 q4 q5 q6 => hK w' q1 (((Mx.rf (X := fun q => q = m + 14) (fun q hq => by omega)).sL rfl).tr q2) q3 (fun i hi => by rw [q4 i hi, wL_s, if_neg (by omega)]) (fun k a b => ?_) (fun k a => by rw [q6 k (by omega), wL_s, if_neg (by omega)]))
      by_cases e : k = j
      · subst e; rw [q6 k (by omega), wL_s, if_pos ⟨rfl, rfl⟩]
      · rw [q5 k a (by omega), wL_s, if_neg (by rcases Nat.lt_or_gt_of_ne hne with z | z <;> omega)]
theorem l_copy_122 {x1 x2 x3 : Int32} {sa da : Nat} (hs : sa < 64) (hd : da < 64) (hne : sa ≠ da) {K : Nat → Int32 → Int32 → Int32 → Int32 → Int32 → Wd → Option (Unit × Wd)} {P : Unit → Wd → Prop} : ∀ (n j : Nat) (w : Wd), 12 < n + j → j ≤ 12 → isM w m → (∀ w', isM w' m → Mx m (fun q => m + 16 ≤ q ∧ q ≤ m + 19) w w' → (∀ p i, 16 ≤ p → p ≤ 19 → (i < 12 * da ∨ 12 * da + 12 ≤ i) → wI w' (m + p) i = wI w (m + p) i ∧ wL w' (m + p) i = wL w (m + p) i) → (∀ k, k < 12 → j ≤ k → rec4 w' m 16 da k = rec4 w m 16 sa k) → (∀ k, k < j → rec4 w' m 16 da k = rec4 w m 16 da k) → ok (K m x1 x2 x3 (nI sa) (nI da) w') P) → ok (f_X6_copy_122 K n m x1 x2 x3 (nI sa) (nI da) (nI j) w) P := by
  intro n
  induction n with
  | zero => intro j w a b; omega
  | succ n ih =>
    intro j w a b hM hK
    rw [f_X6_copy_122.eq_2]
    refine ok_if (fun c => ?_) (fun c => ?_)
    · rw [show (12 : Int32) = nI 12 from rfl, nI_leI (by omega) (by omega)] at c
      exact hK w hM (Mx.rf (fun q hq => by omega)) (fun _ _ _ _ _ => ⟨rfl, rfl⟩) (fun k a b => by omega) (fun _ _ => rfl)
    · rw [show (12 : Int32) = nI 12 from rfl, nI_leI (by omega) (by omega)] at c
      refine ok_mR hM 16 <| ok_mR hM 16 <| ok_mA (v := wI w (m + 16) (12 * sa + j)) hM (i12 sa j) (by show _ < 768; omega) rfl <| ok_mT hM (i12 da j) (by show _ < 768; omega) (fun hM1 => ?_)
      refine ok_mR hM1 17 <| ok_mR hM1 17 <| ok_mA (v := wI w (m + 17) (12 * sa + j)) hM1 (i12 sa j) (by show _ < 768; omega) (by rw [wI_so (by omega)]) <| ok_mT hM1 (i12 da j) (by show _ < 768; omega) (fun hM2 => ?_)
      refine ok_mR hM2 18 <| ok_mR hM2 18 <| ok_mA (v := wI w (m + 18) (12 * sa + j)) hM2 (i12 sa j) (by show _ < 768; omega) (by rw [wI_so (by omega), wI_so (by omega)]) <| ok_mT hM2 (i12 da j) (by show _ < 768; omega) (fun hM3 => ?_)
      refine ok_mR hM3 19 <| ok_mR hM3 19 <| ok_mAL (v := wL w (m + 19) (12 * sa + j)) hM3 (i12 sa j) (by show _ < 768; omega) rfl <| ok_mTL hM3 (i12 da j) (by show _ < 768; omega) (fun hM4 => ?_)
      rw [nI_1]
      have hx : Mx m (fun q => m + 16 ≤ q ∧ q ≤ m + 19) w (sL (sI (sI (sI w (m + 16) (12 * da + j) (wI w (m + 16) (12 * sa + j))) (m + 17) (12 * da + j) (wI w (m + 17) (12 * sa + j))) (m + 18) (12 * da + j) (wI w (m + 18) (12 * sa + j))) (m + 19) (12 * da + j) (wL w (m + 19) (12 * sa + j))) := ((((Mx.rf (fun q hq => by omega)).sI (by omega)).sI (by omega)).sI (by omega)).sL (by omega)
      have ho : ∀ p i, i ≠ 12 * da + j → wI (sL (sI (sI (sI w (m + 16) (12 * da + j) (wI w (m + 16) (12 * sa + j))) (m + 17) (12 * da + j) (wI w (m + 17) (12 * sa + j))) (m + 18) (12 * da + j) (wI w (m + 18) (12 * sa + j))) (m + 19) (12 * da + j) (wL w (m + 19) (12 * sa + j))) p i = wI w p i ∧ wL (sL (sI (sI (sI w (m + 16) (12 * da + j) (wI w (m + 16) (12 * sa + j))) (m + 17) (12 * da + j) (wI w (m + 17) (12 * sa + j))) (m + 18) (12 * da + j) (wI w (m + 18) (12 * sa + j))) (m + 19) (12 * da + j) (wL w (m + 19) (12 * sa + j))) p i = wL w p i := by
        intro p i hi
        simp only [wI_s, wL_s, (wsL _ _ _ _).2.2.2.1, (wsI _ _ _ _).2.2.2.1]
        rw [if_neg (fun z => hi z.2), if_neg (fun z => hi z.2), if_neg (fun z => hi z.2), if_neg (fun z => hi z.2)]
        exact ⟨rfl, rfl⟩
      have hj : rec4 (sL (sI (sI (sI w (m + 16) (12 * da + j) (wI w (m + 16) (12 * sa + j))) (m + 17) (12 * da + j) (wI w (m + 17) (12 * sa + j))) (m + 18) (12 * da + j) (wI w (m + 18) (12 * sa + j))) (m + 19) (12 * da + j) (wL w (m + 19) (12 * sa + j))) m 16 da j = rec4 w m 16 sa j := by
        simp [rec4, wI_s, wL_s, (wsL _ _ _ _).2.2.2.1, (wsI _ _ _ _).2.2.2.1]
      generalize sL (sI (sI (sI w (m + 16) (12 * da + j) (wI w (m + 16) (12 * sa + j))) (m + 17) (12 * da + j) (wI w (m + 17) (12 * sa + j))) (m + 18) (12 * da + j) (wI w (m + 18) (12 * sa + j))) (m + 19) (12 * da + j) (wL w (m + 19) (12 * sa + j)) = w9 at hM4 hx ho hj ⊢
      have hr : ∀ D' a' k, 12 * a' + k ≠ 12 * da + j → rec4 w9 m D' a' k = rec4 w m D' a' k := by
        intro D' a' k hk
        unfold rec4
        rw [(ho (m + D') _ hk).1, (ho (m + (D' + 1)) _ hk).1, (ho (m + (D' + 2)) _ hk).1, (ho (m + (D' + 3)) _ hk).2]
      refine ih (j + 1) w9 (by omega) (by omega) hM4 (fun w' q1 q2 q3 q4 q5 => hK w' q1 (hx.tr q2) (fun p i p1 p2 hi => ⟨(q3 p i p1 p2 hi).1.trans (ho _ i (by omega)).1, (q3 p i p1 p2 hi).2.trans (ho _ i (by omega)).2⟩) (fun k a b => ?_) (fun k a => by rw [q5 k (by omega), hr 16 da k (by omega)]))
      by_cases e : k = j
      · subst e; rw [q5 k (by omega), hj]
      · rw [q4 k a (by omega)]
        exact hr 16 sa k (by rcases Nat.lt_or_gt_of_ne hne with z | z <;> omega)
theorem l_copy_242 {x1 x2 x3 : Int32} {sa da : Nat} (hs : sa < 64) (hd : da < 64) (hne : sa ≠ da) {K : Nat → Int32 → Int32 → Int32 → Wd → Option (Unit × Wd)} {P : Unit → Wd → Prop} : ∀ (n j : Nat) (w : Wd), 6 < n + j → j ≤ 6 → isM w m → (∀ w', isM w' m → Mx m (fun q => q = m + 20 ∨ q = m + 21) w w' → wL w' = wL w → (∀ p i, p = 20 ∨ p = 21 → (i < 6 * da ∨ 6 * da + 6 ≤ i) → wI w' (m + p) i = wI w (m + p) i) → (∀ k, k < 6 → j ≤ k → wI w' (m + 20) (6 * da + k) = wI w (m + 20) (6 * sa + k) ∧ wI w' (m + 21) (6 * da + k) = wI w (m + 21) (6 * sa + k)) → (∀ k, k < j → wI w' (m + 20) (6 * da + k) = wI w (m + 20) (6 * da + k) ∧ wI w' (m + 21) (6 * da + k) = wI w (m + 21) (6 * da + k)) → ok (K m x1 x2 x3 w') P) → ok (f_X6_copy_242 K n m x1 x2 x3 (nI sa) (nI da) (nI j) w) P := by
  intro n
  induction n with
  | zero => intro j w a b; omega
  | succ n ih =>
    intro j w a b hM hK
    rw [f_X6_copy_242.eq_2]
    refine ok_if (fun c => ?_) (fun c => ?_)
    · rw [show (6 : Int32) = nI 6 from rfl, nI_leI (by omega) (by omega)] at c
      exact hK w hM (Mx.rf (fun q hq => by omega)) rfl (fun _ _ _ _ => rfl) (fun k a b => by omega) (fun _ _ => ⟨rfl, rfl⟩)
    · rw [show (6 : Int32) = nI 6 from rfl, nI_leI (by omega) (by omega)] at c
      refine ok_mR hM 20 <| ok_mR hM 20 <| ok_mA (v := wI w (m + 20) (6 * sa + j)) hM (i6' sa j) (by show _ < 384; omega) rfl <| ok_mT hM (i6' da j) (by show _ < 384; omega) (fun hM1 => ?_)
      refine ok_mR hM1 21 <| ok_mR hM1 21 <| ok_mA (v := wI w (m + 21) (6 * sa + j)) hM1 (i6' sa j) (by show _ < 384; omega) (by rw [wI_so (by omega)]) <| ok_mT hM1 (i6' da j) (by show _ < 384; omega) (fun hM2 => ?_)
      rw [nI_1]
      have hx : Mx m (fun q => q = m + 20 ∨ q = m + 21) w (sI (sI w (m + 20) (6 * da + j) (wI w (m + 20) (6 * sa + j))) (m + 21) (6 * da + j) (wI w (m + 21) (6 * sa + j))) := ((Mx.rf (fun q hq => by omega)).sI (by omega)).sI (by omega)
      have ho : ∀ p i, i ≠ 6 * da + j → wI (sI (sI w (m + 20) (6 * da + j) (wI w (m + 20) (6 * sa + j))) (m + 21) (6 * da + j) (wI w (m + 21) (6 * sa + j))) p i = wI w p i := by
        intro p i hi
        rw [wI_s, if_neg (fun z => hi z.2), wI_s, if_neg (fun z => hi z.2)]
      have hj : wI (sI (sI w (m + 20) (6 * da + j) (wI w (m + 20) (6 * sa + j))) (m + 21) (6 * da + j) (wI w (m + 21) (6 * sa + j))) (m + 20) (6 * da + j) = wI w (m + 20) (6 * sa + j) ∧ wI (sI (sI w (m + 20) (6 * da + j) (wI w (m + 20) (6 * sa + j))) (m + 21) (6 * da + j) (wI w (m + 21) (6 * sa + j))) (m + 21) (6 * da + j) = wI w (m + 21) (6 * sa + j) := by simp [wI_s]
      have hl : wL (sI (sI w (m + 20) (6 * da + j) (wI w (m + 20) (6 * sa + j))) (m + 21) (6 * da + j) (wI w (m + 21) (6 * sa + j))) = wL w := rfl
      generalize (sI (sI w (m + 20) (6 * da + j) (wI w (m + 20) (6 * sa + j))) (m + 21) (6 * da + j) (wI w (m + 21) (6 * sa + j))) = w9 at hM2 hx ho hj hl ⊢
      refine ih (j + 1) w9 (by omega) (by omega) hM2 (fun w' q1 q2 q3 q4 q5 q6 => hK w' q1 (hx.tr q2) (q3.trans hl) (fun p i p1 hi => (q4 p i p1 hi).trans (ho _ i (by omega))) (fun k a b => ?_) (fun k a => by rw [(q6 k (by omega)).1, (q6 k (by omega)).2, ho _ _ (by omega), ho _ _ (by omega)]; exact ⟨rfl, rfl⟩))
      by_cases e : k = j
      · subst e; rw [(q6 k (by omega)).1, (q6 k (by omega)).2]; exact hj
      · rw [(q5 k a (by omega)).1, (q5 k a (by omega)).2]
        rw [ho _ _ (by rcases Nat.lt_or_gt_of_ne hne with z | z <;> omega), ho _ _ (by rcases Nat.lt_or_gt_of_ne hne with z | z <;> omega)]; exact ⟨rfl, rfl⟩
theorem l_move_177 {x1 x2 x3 : Int32} {sa da : Nat} (hs : sa < 64) (hd : da < 4700) {K : Nat → Int32 → Int32 → Int32 → Wd → Option (Int32 × Wd)} {P : Int32 → Wd → Prop} : ∀ (n j : Nat) (w : Wd), 4 < n + j → j ≤ 4 → isM w m → (∀ w', isM w' m → Mx m (fun q => q = m + 35) w w' → wI w' = wI w → (∀ i, (i < 4 * da ∨ 4 * da + 4 ≤ i) → wL w' (m + 35) i = wL w (m + 35) i) → (∀ k, k < 4 → j ≤ k → wL w' (m + 35) (4 * da + k) = wL w (m + 14) (4 * sa + k)) → (∀ k, k < j → wL w' (m + 35) (4 * da + k) = wL w (m + 35) (4 * da + k)) → ok (K m x1 (nI sa) (nI da) w') P) → ok (f_X6_move_177 K n m x1 (nI sa) (nI da) (nI j) w) P := by
  intro n
  induction n with
  | zero => intro j w a b; omega
  | succ n ih =>
    intro j w a b hM hK
    rw [f_X6_move_177.eq_2]
    refine ok_if (fun c => ?_) (fun c => ?_)
    · rw [show (4 : Int32) = nI 4 from rfl, nI_leI (by omega) (by omega)] at c
      exact hK w hM (Mx.rf (fun q hq => by omega)) rfl (fun _ _ => rfl) (fun k a b => by omega) (fun _ _ => rfl)
    · rw [show (4 : Int32) = nI 4 from rfl, nI_leI (by omega) (by omega)] at c
      refine ok_mR hM 35 <| ok_mR hM 14 <| ok_mAL hM (i4 sa j) (by show _ < 256; omega) rfl <| ok_mTL hM (i4 da j) (by show _ < 18800; omega) (fun hM1 => ?_)
      rw [nI_1]
      refine ih (j + 1) _ (by omega) (by omega) hM1 (fun w' q1 q2 q3 q4 q5 q6 => hK w' q1 (((Mx.rf (X := fun q => q = m + 35) (fun q hq => by omega)).sL rfl).tr q2) q3 (fun i hi => by rw [q4 i hi, wL_s, if_neg (by omega)]) (fun k a b => ?_) (fun k a => by rw [q6 k (by omega), wL_s, if_neg (by omega)]))
      by_cases e : k = j
      · subst e; rw [q6 k (by omega), wL_s, if_pos ⟨rfl, rfl⟩]
      · rw [q5 k a (by omega), wL_s, if_neg (by omega)]
theorem l_move_216 {x1 x2 x3 : Int32} {sa da : Nat} (hs : sa < 64) (hd : da < 4700) {N : Nat} (hN : N ≤ 12) {K : Nat → Int32 → Int32 → Int32 → Wd → Option (Int32 × Wd)} {P : Int32 → Wd → Prop} : ∀ (n j : Nat) (w : Wd), N < n + j → j ≤ N → isM w m → wI w (m + 15) sa = nI N → (∀ w', isM w' m → Mx m (fun q => m + 36 ≤ q ∧ q ≤ m + 39) w w' → (∀ p i, 36 ≤ p → p ≤ 39 → (i < 12 * da ∨ 12 * da + 12 ≤ i) → wI w' (m + p) i = wI w (m + p) i ∧ wL w' (m + p) i = wL w (m + p) i) → (∀ k, k < N → j ≤ k → rec4 w' m 36 da k = rec4 w m 16 sa k) → (∀ k, k < j → rec4 w' m 36 da k = rec4 w m 36 da k) → ok (K m x1 (nI sa) (nI da) w') P) → ok (f_X6_move_216 K n m x1 (nI sa) (nI da) (nI j) w) P := by
  intro n
  induction n with
  | zero => intro j w a b; omega
  | succ n ih =>
    intro j w a b hM hz hK
    rw [f_X6_move_216.eq_2]
    refine ok_mR hM 15 <| ok_mA hM rfl hs hz <| ok_if (fun c => ?_) (fun c => ?_)
    · rw [nI_leI (by omega) (by omega)] at c
      exact hK w hM (Mx.rf (fun q hq => by omega)) (fun _ _ _ _ _ => ⟨rfl, rfl⟩) (fun k a b => by omega) (fun _ _ => rfl)
    · rw [nI_leI (by omega) (by omega)] at c
      refine ok_mR hM 36 <| ok_mR hM 16 <| ok_mA (v := wI w (m + 16) (12 * sa + j)) hM (i12 sa j) (by show _ < 768; omega) rfl <| ok_mT hM (i12 da j) (by show _ < 56400; omega) (fun hM1 => ?_)
      refine ok_mR hM1 37 <| ok_mR hM1 17 <| ok_mA (v := wI w (m + 17) (12 * sa + j)) hM1 (i12 sa j) (by show _ < 768; omega) (by rw [wI_so (by omega)]) <| ok_mT hM1 (i12 da j) (by show _ < 56400; omega) (fun hM2 => ?_)
      refine ok_mR hM2 38 <| ok_mR hM2 18 <| ok_mA (v := wI w (m + 18) (12 * sa + j)) hM2 (i12 sa j) (by show _ < 768; omega) (by rw [wI_so (by omega), wI_so (by omega)]) <| ok_mT hM2 (i12 da j) (by show _ < 56400; omega) (fun hM3 => ?_)
      refine ok_mR hM3 39 <| ok_mR hM3 19 <| ok_mAL (v := wL w (m + 19) (12 * sa + j)) hM3 (i12 sa j) (by show _ < 768; omega) rfl <| ok_mTL hM3 (i12 da j) (by show _ < 56400; omega) (fun hM4 => ?_)
      rw [nI_1]
      have hx : Mx m (fun q => m + 36 ≤ q ∧ q ≤ m + 39) w (sL (sI (sI (sI w (m + 36) (12 * da + j) (wI w (m + 16) (12 * sa + j))) (m + 37) (12 * da + j) (wI w (m + 17) (12 * sa + j))) (m + 38) (12 * da + j) (wI w (m + 18) (12 * sa + j))) (m + 39) (12 * da + j) (wL w (m + 19) (12 * sa + j))) := ((((Mx.rf (fun q hq => by omega)).sI (by omega)).sI (by omega)).sI (by omega)).sL (by omega)
      have ho : ∀ p i, i ≠ 12 * da + j → wI (sL (sI (sI (sI w (m + 36) (12 * da + j) (wI w (m + 16) (12 * sa + j))) (m + 37) (12 * da + j) (wI w (m + 17) (12 * sa + j))) (m + 38) (12 * da + j) (wI w (m + 18) (12 * sa + j))) (m + 39) (12 * da + j) (wL w (m + 19) (12 * sa + j))) p i = wI w p i ∧ wL (sL (sI (sI (sI w (m + 36) (12 * da + j) (wI w (m + 16) (12 * sa + j))) (m + 37) (12 * da + j) (wI w (m + 17) (12 * sa + j))) (m + 38) (12 * da + j) (wI w (m + 18) (12 * sa + j))) (m + 39) (12 * da + j) (wL w (m + 19) (12 * sa + j))) p i = wL w p i := by
        intro p i hi
        simp only [wI_s, wL_s, (wsL _ _ _ _).2.2.2.1, (wsI _ _ _ _).2.2.2.1]
        rw [if_neg (fun z => hi z.2), if_neg (fun z => hi z.2), if_neg (fun z => hi z.2), if_neg (fun z => hi z.2)]
        exact ⟨rfl, rfl⟩
      have hj : rec4 (sL (sI (sI (sI w (m + 36) (12 * da + j) (wI w (m + 16) (12 * sa + j))) (m + 37) (12 * da + j) (wI w (m + 17) (12 * sa + j))) (m + 38) (12 * da + j) (wI w (m + 18) (12 * sa + j))) (m + 39) (12 * da + j) (wL w (m + 19) (12 * sa + j))) m 36 da j = rec4 w m 16 sa j := by
        simp [rec4, wI_s, wL_s, (wsL _ _ _ _).2.2.2.1, (wsI _ _ _ _).2.2.2.1]
      have hz1 : wI (sL (sI (sI (sI w (m + 36) (12 * da + j) (wI w (m + 16) (12 * sa + j))) (m + 37) (12 * da + j) (wI w (m + 17) (12 * sa + j))) (m + 38) (12 * da + j) (wI w (m + 18) (12 * sa + j))) (m + 39) (12 * da + j) (wL w (m + 19) (12 * sa + j))) (m + 15) sa = nI N := by rw [hx.I (by omega)]; exact hz
      generalize sL (sI (sI (sI w (m + 36) (12 * da + j) (wI w (m + 16) (12 * sa + j))) (m + 37) (12 * da + j) (wI w (m + 17) (12 * sa + j))) (m + 38) (12 * da + j) (wI w (m + 18) (12 * sa + j))) (m + 39) (12 * da + j) (wL w (m + 19) (12 * sa + j)) = w9 at hM4 hx ho hj hz1 ⊢
      have hr : ∀ D' a' k, 12 * a' + k ≠ 12 * da + j → rec4 w9 m D' a' k = rec4 w m D' a' k := by
        intro D' a' k hk
        unfold rec4
        rw [(ho (m + D') _ hk).1, (ho (m + (D' + 1)) _ hk).1, (ho (m + (D' + 2)) _ hk).1, (ho (m + (D' + 3)) _ hk).2]
      refine ih (j + 1) w9 (by omega) (by omega) hM4 hz1 (fun w' q1 q2 q3 q4 q5 => hK w' q1 (hx.tr q2) (fun p i p1 p2 hi => ⟨(q3 p i p1 p2 hi).1.trans (ho _ i (by omega)).1, (q3 p i p1 p2 hi).2.trans (ho _ i (by omega)).2⟩) (fun k a b => ?_) (fun k a => by rw [q5 k (by omega), hr 36 da k (by omega)]))
      by_cases e : k = j
      · subst e; rw [q5 k (by omega), hj]
      · rw [q4 k a (by omega)]
        have hs2 : rec4 w9 m 16 sa k = rec4 w m 16 sa k := by
          unfold rec4
          rw [hx.I (q := m + 16) (by omega), hx.I (q := m + (16 + 1)) (by omega), hx.I (q := m + (16 + 2)) (by omega), hx.L (q := m + (16 + 3)) (by omega)]
        exact hs2
theorem l_move_341 {x1 x2 x3 : Int32} {sa da : Nat} (hs : sa < 64) (hd : da < 4700) {K : Nat → Int32 → Int32 → Int32 → Wd → Option (Int32 × Wd)} {P : Int32 → Wd → Prop} : ∀ (n j : Nat) (w : Wd), 6 < n + j → j ≤ 6 → isM w m → (∀ w', isM w' m → Mx m (fun q => q = m + 40 ∨ q = m + 41) w w' → wL w' = wL w → (∀ p i, p = 40 ∨ p = 41 → (i < 6 * da ∨ 6 * da + 6 ≤ i) → wI w' (m + p) i = wI w (m + p) i) → (∀ k, k < 6 → j ≤ k → wI w' (m + 40) (6 * da + k) = wI w (m + 20) (6 * sa + k) ∧ wI w' (m + 41) (6 * da + k) = wI w (m + 21) (6 * sa + k)) → (∀ k, k < j → wI w' (m + 40) (6 * da + k) = wI w (m + 40) (6 * da + k) ∧ wI w' (m + 41) (6 * da + k) = wI w (m + 41) (6 * da + k)) → ok (K m x1 (nI sa) (nI da) w') P) → ok (f_X6_move_341 K n m x1 (nI sa) (nI da) (nI j) w) P := by
  intro n
  induction n with
  | zero => intro j w a b; omega
  | succ n ih =>
    intro j w a b hM hK
    rw [f_X6_move_341.eq_2]
    refine ok_if (fun c => ?_) (fun c => ?_)
    · rw [show (6 : Int32) = nI 6 from rfl, nI_leI (by omega) (by omega)] at c
      exact hK w hM (Mx.rf (fun q hq => by omega)) rfl (fun _ _ _ _ => rfl) (fun k a b => by omega) (fun _ _ => ⟨rfl, rfl⟩)
    · rw [show (6 : Int32) = nI 6 from rfl, nI_leI (by omega) (by omega)] at c
      refine ok_mR hM 40 <| ok_mR hM 20 <| ok_mA (v := wI w (m + 20) (6 * sa + j)) hM (i6' sa j) (by show _ < 384; omega) rfl <| ok_mT hM (i6' da j) (by show _ < 28200; omega) (fun hM1 => ?_)
      refine ok_mR hM1 41 <| ok_mR hM1 21 <| ok_mA (v := wI w (m + 21) (6 * sa + j)) hM1 (i6' sa j) (by show _ < 384; omega) (by rw [wI_so (by omega)]) <| ok_mT hM1 (i6' da j) (by show _ < 28200; omega) (fun hM2 => ?_)
      rw [nI_1]
      have hx : Mx m (fun q => q = m + 40 ∨ q = m + 41) w (sI (sI w (m + 40) (6 * da + j) (wI w (m + 20) (6 * sa + j))) (m + 41) (6 * da + j) (wI w (m + 21) (6 * sa + j))) := ((Mx.rf (fun q hq => by omega)).sI (by omega)).sI (by omega)
      have ho : ∀ p i, i ≠ 6 * da + j → wI (sI (sI w (m + 40) (6 * da + j) (wI w (m + 20) (6 * sa + j))) (m + 41) (6 * da + j) (wI w (m + 21) (6 * sa + j))) p i = wI w p i := by
        intro p i hi
        rw [wI_s, if_neg (fun z => hi z.2), wI_s, if_neg (fun z => hi z.2)]
      have hj : wI (sI (sI w (m + 40) (6 * da + j) (wI w (m + 20) (6 * sa + j))) (m + 41) (6 * da + j) (wI w (m + 21) (6 * sa + j))) (m + 40) (6 * da + j) = wI w (m + 20) (6 * sa + j) ∧ wI (sI (sI w (m + 40) (6 * da + j) (wI w (m + 20) (6 * sa + j))) (m + 41) (6 * da + j) (wI w (m + 21) (6 * sa + j))) (m + 41) (6 * da + j) = wI w (m + 21) (6 * sa + j) := by simp [wI_s]
      have hl : wL (sI (sI w (m + 40) (6 * da + j) (wI w (m + 20) (6 * sa + j))) (m + 41) (6 * da + j) (wI w (m + 21) (6 * sa + j))) = wL w := rfl
      generalize (sI (sI w (m + 40) (6 * da + j) (wI w (m + 20) (6 * sa + j))) (m + 41) (6 * da + j) (wI w (m + 21) (6 * sa + j))) = w9 at hM2 hx ho hj hl ⊢
      refine ih (j + 1) w9 (by omega) (by omega) hM2 (fun w' q1 q2 q3 q4 q5 q6 => hK w' q1 (hx.tr q2) (q3.trans hl) (fun p i p1 hi => (q4 p i p1 hi).trans (ho _ i (by omega))) (fun k a b => ?_) (fun k a => by rw [(q6 k (by omega)).1, (q6 k (by omega)).2, ho _ _ (by omega), ho _ _ (by omega)]; exact ⟨rfl, rfl⟩))
      by_cases e : k = j
      · subst e; rw [(q6 k (by omega)).1, (q6 k (by omega)).2]; exact hj
      · rw [(q5 k a (by omega)).1, (q5 k a (by omega)).2]
        rw [hx.I (q := m + 20) (by omega), hx.I (q := m + 21) (by omega)]; exact ⟨rfl, rfl⟩
theorem l_moved_90 {x1 x2 x3 : Int32} {sa da : Nat} (hs : sa < 4700) (hd : da < 64) {K : Nat → Int32 → Int32 → Int32 → Int32 → Wd → Option (Unit × Wd)} {P : Unit → Wd → Prop} : ∀ (n j : Nat) (w : Wd), 4 < n + j → j ≤ 4 → isM w m → (∀ w', isM w' m → Mx m (fun q => q = m + 14) w w' → wI w' = wI w → (∀ i, (i < 4 * da ∨ 4 * da + 4 ≤ i) → wL w' (m + 14) i = wL w (m + 14) i) → (∀ k, k < 4 → j ≤ k → wL w' (m + 14) (4 * da + k) = wL w (m + 35) (4 * sa + k)) → (∀ k, k < j → wL w' (m + 14) (4 * da + k) = wL w (m + 14) (4 * da + k)) → ok (K m (nI sa) x2 x3 (nI da) w') P) → ok (f_X6_moved_90 K n m (nI sa) x2 x3 (nI da) (nI j) w) P := by
  intro n
  induction n with
  | zero => intro j w a b; omega
  | succ n ih =>
    intro j w a b hM hK
    rw [f_X6_moved_90.eq_2]
    refine ok_if (fun c => ?_) (fun c => ?_)
    · rw [show (4 : Int32) = nI 4 from rfl, nI_leI (by omega) (by omega)] at c
      exact hK w hM (Mx.rf (fun q hq => by omega)) rfl (fun _ _ => rfl) (fun k a b => by omega) (fun _ _ => rfl)
    · rw [show (4 : Int32) = nI 4 from rfl, nI_leI (by omega) (by omega)] at c
      refine ok_mR hM 14 <| ok_mR hM 35 <| ok_mAL hM (i4 sa j) (by show _ < 18800; omega) rfl <| ok_mTL hM (i4 da j) (by show _ < 256; omega) (fun hM1 => ?_)
      rw [nI_1]
      refine ih (j + 1) _ (by omega) (by omega) hM1 (fun w' q1 q2 q3 q4 q5 q6 => hK w' q1 (((Mx.rf (X := fun q => q = m + 14) (fun q hq => by omega)).sL rfl).tr q2) q3 (fun i hi => by rw [q4 i hi, wL_s, if_neg (by omega)]) (fun k a b => ?_) (fun k a => by rw [q6 k (by omega), wL_s, if_neg (by omega)]))
      by_cases e : k = j
      · subst e; rw [q6 k (by omega), wL_s, if_pos ⟨rfl, rfl⟩]
      · rw [q5 k a (by omega), wL_s, if_neg (by omega)]
theorem l_moved_128 {x1 x2 x3 : Int32} {sa da : Nat} (hs : sa < 4700) (hd : da < 64) {N : Nat} (hN : N ≤ 12) {K : Nat → Int32 → Int32 → Int32 → Int32 → Wd → Option (Unit × Wd)} {P : Unit → Wd → Prop} : ∀ (n j : Nat) (w : Wd), N < n + j → j ≤ N → isM w m → wI w (m + 30) sa = nI N → (∀ w', isM w' m → Mx m (fun q => m + 16 ≤ q ∧ q ≤ m + 19) w w' → (∀ p i, 16 ≤ p → p ≤ 19 → (i < 12 * da ∨ 12 * da + 12 ≤ i) → wI w' (m + p) i = wI w (m + p) i ∧ wL w' (m + p) i = wL w (m + p) i) → (∀ k, k < N → j ≤ k → rec4 w' m 16 da k = rec4 w m 36 sa k) → (∀ k, k < j → rec4 w' m 16 da k = rec4 w m 16 da k) → ok (K m (nI sa) x2 x3 (nI da) w') P) → ok (f_X6_moved_128 K n m (nI sa) x2 x3 (nI da) (nI j) w) P := by
  intro n
  induction n with
  | zero => intro j w a b; omega
  | succ n ih =>
    intro j w a b hM hz hK
    rw [f_X6_moved_128.eq_2]
    refine ok_mR hM 30 <| ok_mA hM rfl hs hz <| ok_if (fun c => ?_) (fun c => ?_)
    · rw [nI_leI (by omega) (by omega)] at c
      exact hK w hM (Mx.rf (fun q hq => by omega)) (fun _ _ _ _ _ => ⟨rfl, rfl⟩) (fun k a b => by omega) (fun _ _ => rfl)
    · rw [nI_leI (by omega) (by omega)] at c
      refine ok_mR hM 16 <| ok_mR hM 36 <| ok_mA (v := wI w (m + 36) (12 * sa + j)) hM (i12 sa j) (by show _ < 56400; omega) rfl <| ok_mT hM (i12 da j) (by show _ < 768; omega) (fun hM1 => ?_)
      refine ok_mR hM1 17 <| ok_mR hM1 37 <| ok_mA (v := wI w (m + 37) (12 * sa + j)) hM1 (i12 sa j) (by show _ < 56400; omega) (by rw [wI_so (by omega)]) <| ok_mT hM1 (i12 da j) (by show _ < 768; omega) (fun hM2 => ?_)
      refine ok_mR hM2 18 <| ok_mR hM2 38 <| ok_mA (v := wI w (m + 38) (12 * sa + j)) hM2 (i12 sa j) (by show _ < 56400; omega) (by rw [wI_so (by omega), wI_so (by omega)]) <| ok_mT hM2 (i12 da j) (by show _ < 768; omega) (fun hM3 => ?_)
      refine ok_mR hM3 19 <| ok_mR hM3 39 <| ok_mAL (v := wL w (m + 39) (12 * sa + j)) hM3 (i12 sa j) (by show _ < 56400; omega) rfl <| ok_mTL hM3 (i12 da j) (by show _ < 768; omega) (fun hM4 => ?_)
      rw [nI_1]
      have hx : Mx m (fun q => m + 16 ≤ q ∧ q ≤ m + 19) w (sL (sI (sI (sI w (m + 16) (12 * da + j) (wI w (m + 36) (12 * sa + j))) (m + 17) (12 * da + j) (wI w (m + 37) (12 * sa + j))) (m + 18) (12 * da + j) (wI w (m + 38) (12 * sa + j))) (m + 19) (12 * da + j) (wL w (m + 39) (12 * sa + j))) := ((((Mx.rf (fun q hq => by omega)).sI (by omega)).sI (by omega)).sI (by omega)).sL (by omega)
      have ho : ∀ p i, i ≠ 12 * da + j → wI (sL (sI (sI (sI w (m + 16) (12 * da + j) (wI w (m + 36) (12 * sa + j))) (m + 17) (12 * da + j) (wI w (m + 37) (12 * sa + j))) (m + 18) (12 * da + j) (wI w (m + 38) (12 * sa + j))) (m + 19) (12 * da + j) (wL w (m + 39) (12 * sa + j))) p i = wI w p i ∧ wL (sL (sI (sI (sI w (m + 16) (12 * da + j) (wI w (m + 36) (12 * sa + j))) (m + 17) (12 * da + j) (wI w (m + 37) (12 * sa + j))) (m + 18) (12 * da + j) (wI w (m + 38) (12 * sa + j))) (m + 19) (12 * da + j) (wL w (m + 39) (12 * sa + j))) p i = wL w p i := by
        intro p i hi
        simp only [wI_s, wL_s, (wsL _ _ _ _).2.2.2.1, (wsI _ _ _ _).2.2.2.1]
        rw [if_neg (fun z => hi z.2), if_neg (fun z => hi z.2), if_neg (fun z => hi z.2), if_neg (fun z => hi z.2)]
        exact ⟨rfl, rfl⟩
      have hj : rec4 (sL (sI (sI (sI w (m + 16) (12 * da + j) (wI w (m + 36) (12 * sa + j))) (m + 17) (12 * da + j) (wI w (m + 37) (12 * sa + j))) (m + 18) (12 * da + j) (wI w (m + 38) (12 * sa + j))) (m + 19) (12 * da + j) (wL w (m + 39) (12 * sa + j))) m 16 da j = rec4 w m 36 sa j := by
        simp [rec4, wI_s, wL_s, (wsL _ _ _ _).2.2.2.1, (wsI _ _ _ _).2.2.2.1]
      have hz1 : wI (sL (sI (sI (sI w (m + 16) (12 * da + j) (wI w (m + 36) (12 * sa + j))) (m + 17) (12 * da + j) (wI w (m + 37) (12 * sa + j))) (m + 18) (12 * da + j) (wI w (m + 38) (12 * sa + j))) (m + 19) (12 * da + j) (wL w (m + 39) (12 * sa + j))) (m + 30) sa = nI N := by rw [hx.I (by omega)]; exact hz
      generalize sL (sI (sI (sI w (m + 16) (12 * da + j) (wI w (m + 36) (12 * sa + j))) (m + 17) (12 * da + j) (wI w (m + 37) (12 * sa + j))) (m + 18) (12 * da + j) (wI w (m + 38) (12 * sa + j))) (m + 19) (12 * da + j) (wL w (m + 39) (12 * sa + j)) = w9 at hM4 hx ho hj hz1 ⊢
      have hr : ∀ D' a' k, 12 * a' + k ≠ 12 * da + j → rec4 w9 m D' a' k = rec4 w m D' a' k := by
        intro D' a' k hk
        unfold rec4
        rw [(ho (m + D') _ hk).1, (ho (m + (D' + 1)) _ hk).1, (ho (m + (D' + 2)) _ hk).1, (ho (m + (D' + 3)) _ hk).2]
      refine ih (j + 1) w9 (by omega) (by omega) hM4 hz1 (fun w' q1 q2 q3 q4 q5 => hK w' q1 (hx.tr q2) (fun p i p1 p2 hi => ⟨(q3 p i p1 p2 hi).1.trans (ho _ i (by omega)).1, (q3 p i p1 p2 hi).2.trans (ho _ i (by omega)).2⟩) (fun k a b => ?_) (fun k a => by rw [q5 k (by omega), hr 16 da k (by omega)]))
      by_cases e : k = j
      · subst e; rw [q5 k (by omega), hj]
      · rw [q4 k a (by omega)]
        have hs2 : rec4 w9 m 36 sa k = rec4 w m 36 sa k := by
          unfold rec4
          rw [hx.I (q := m + 36) (by omega), hx.I (q := m + (36 + 1)) (by omega), hx.I (q := m + (36 + 2)) (by omega), hx.L (q := m + (36 + 3)) (by omega)]
        exact hs2
theorem l_moved_248 {x1 x2 x3 : Int32} {sa da : Nat} (hs : sa < 4700) (hd : da < 64) {K : Nat → Int32 → Int32 → Int32 → Wd → Option (Unit × Wd)} {P : Unit → Wd → Prop} : ∀ (n j : Nat) (w : Wd), 6 < n + j → j ≤ 6 → isM w m → (∀ w', isM w' m → Mx m (fun q => q = m + 20 ∨ q = m + 21) w w' → wL w' = wL w → (∀ p i, p = 20 ∨ p = 21 → (i < 6 * da ∨ 6 * da + 6 ≤ i) → wI w' (m + p) i = wI w (m + p) i) → (∀ k, k < 6 → j ≤ k → wI w' (m + 20) (6 * da + k) = wI w (m + 40) (6 * sa + k) ∧ wI w' (m + 21) (6 * da + k) = wI w (m + 41) (6 * sa + k)) → (∀ k, k < j → wI w' (m + 20) (6 * da + k) = wI w (m + 20) (6 * da + k) ∧ wI w' (m + 21) (6 * da + k) = wI w (m + 21) (6 * da + k)) → ok (K m (nI sa) x2 x3 w') P) → ok (f_X6_moved_248 K n m (nI sa) x2 x3 (nI da) (nI j) w) P := by
  intro n
  induction n with
  | zero => intro j w a b; omega
  | succ n ih =>
    intro j w a b hM hK
    rw [f_X6_moved_248.eq_2]
    refine ok_if (fun c => ?_) (fun c => ?_)
    · rw [show (6 : Int32) = nI 6 from rfl, nI_leI (by omega) (by omega)] at c
      exact hK w hM (Mx.rf (fun q hq => by omega)) rfl (fun _ _ _ _ => rfl) (fun k a b => by omega) (fun _ _ => ⟨rfl, rfl⟩)
    · rw [show (6 : Int32) = nI 6 from rfl, nI_leI (by omega) (by omega)] at c
      refine ok_mR hM 20 <| ok_mR hM 40 <| ok_mA (v := wI w (m + 40) (6 * sa + j)) hM (i6' sa j) (by show _ < 28200; omega) rfl <| ok_mT hM (i6' da j) (by show _ < 384; omega) (fun hM1 => ?_)
      refine ok_mR hM1 21 <| ok_mR hM1 41 <| ok_mA (v := wI w (m + 41) (6 * sa + j)) hM1 (i6' sa j) (by show _ < 28200; omega) (by rw [wI_so (by omega)]) <| ok_mT hM1 (i6' da j) (by show _ < 384; omega) (fun hM2 => ?_)
      rw [nI_1]
      have hx : Mx m (fun q => q = m + 20 ∨ q = m + 21) w (sI (sI w (m + 20) (6 * da + j) (wI w (m + 40) (6 * sa + j))) (m + 21) (6 * da + j) (wI w (m + 41) (6 * sa + j))) := ((Mx.rf (fun q hq => by omega)).sI (by omega)).sI (by omega)
      have ho : ∀ p i, i ≠ 6 * da + j → wI (sI (sI w (m + 20) (6 * da + j) (wI w (m + 40) (6 * sa + j))) (m + 21) (6 * da + j) (wI w (m + 41) (6 * sa + j))) p i = wI w p i := by
        intro p i hi
        rw [wI_s, if_neg (fun z => hi z.2), wI_s, if_neg (fun z => hi z.2)]
      have hj : wI (sI (sI w (m + 20) (6 * da + j) (wI w (m + 40) (6 * sa + j))) (m + 21) (6 * da + j) (wI w (m + 41) (6 * sa + j))) (m + 20) (6 * da + j) = wI w (m + 40) (6 * sa + j) ∧ wI (sI (sI w (m + 20) (6 * da + j) (wI w (m + 40) (6 * sa + j))) (m + 21) (6 * da + j) (wI w (m + 41) (6 * sa + j))) (m + 21) (6 * da + j) = wI w (m + 41) (6 * sa + j) := by simp [wI_s]
      have hl : wL (sI (sI w (m + 20) (6 * da + j) (wI w (m + 40) (6 * sa + j))) (m + 21) (6 * da + j) (wI w (m + 41) (6 * sa + j))) = wL w := rfl
      generalize (sI (sI w (m + 20) (6 * da + j) (wI w (m + 40) (6 * sa + j))) (m + 21) (6 * da + j) (wI w (m + 41) (6 * sa + j))) = w9 at hM2 hx ho hj hl ⊢
      refine ih (j + 1) w9 (by omega) (by omega) hM2 (fun w' q1 q2 q3 q4 q5 q6 => hK w' q1 (hx.tr q2) (q3.trans hl) (fun p i p1 hi => (q4 p i p1 hi).trans (ho _ i (by omega))) (fun k a b => ?_) (fun k a => by rw [(q6 k (by omega)).1, (q6 k (by omega)).2, ho _ _ (by omega), ho _ _ (by omega)]; exact ⟨rfl, rfl⟩))
      by_cases e : k = j
      · subst e; rw [(q6 k (by omega)).1, (q6 k (by omega)).2]; exact hj
      · rw [(q5 k a (by omega)).1, (q5 k a (by omega)).2]
        rw [hx.I (q := m + 40) (by omega), hx.I (q := m + 41) (by omega)]; exact ⟨rfl, rfl⟩
end LO
