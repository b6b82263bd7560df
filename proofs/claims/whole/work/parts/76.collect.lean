/-! COLLECT -/
section CT
variable {w w' : Wd} {o m S : Nat} {le : Int32} {sc : Nat → Int32} {cl : Nat → ClD} {mem kept : Nat → Nat → BkD} {up cn dy : Nat → Bool} {row : List Ltr} {held : Nat → List Ltr} {fl : List (Nat × Ltr)}
/-- other records -/
def wr (d : BkD) (rs : List Rec) : BkD := (d.1, d.2.1, d.2.2.1, d.2.2.2.1, rs, d.2.2.2.2.2.1, d.2.2.2.2.2.2)
theorem wL_sI {a k : Nat} {v : Int32} : wL (sI w a k v) = wL w := rfl
theorem wI_sL {a k : Nat} {v : Int64} : wI (sL w a k v) = wI w := rfl
theorem sI_same {a k : Nat} {v : Int32} (h : wI w a k = v) : sI w a k v = w := by
  subst h
  have : up2 (wI w) a k (wI w a k) = wI w := by
    funext b j
    rw [up2_at]
    by_cases e : b = a ∧ j = k
    · rw [if_pos e, e.1, e.2]
    · rw [if_neg e]
  unfold sI
  rw [this]
  rfl
theorem m_forget_loop {a L : Nat} (ha : a < 64) (hL : L ≤ 11) : ∀ (n j : Nat) (w : Wd), L < n + j → j ≤ L → isM w m → wI w (m + 15) a = nI L →
    ok (f_X6_forget_12 n m (nI a) (nI j) w) (fun _ w' => isM w' m ∧ Mx m (fun q => m + 16 ≤ q ∧ q ≤ m + 19) w w' ∧ (∀ p i, 16 ≤ p → p ≤ 19 → (i < 12 * a ∨ 12 * a + 12 ≤ i) → wI w' (m + p) i = wI w (m + p) i ∧ wL w' (m + p) i = wL w (m + p) i) ∧ (∀ i, i < j → recM w' m a i = recM w m a i) ∧ (∀ i, j ≤ i → i < L → recM w' m a i = recM w m a (i + 1))) := by
  intro n
  induction n with
  | zero => intro j w h1 h2; omega
  | succ n ih =>
    intro j w h1 h2 hM s1
    rw [f_X6_forget_12.eq_2]
    refine ok_mR hM 15 <| ok_mA hM rfl (by show a < 64; omega) s1 <| ok_if (fun c => ?_) (fun c => ?_)
    · rw [nI_leI (by omega) (by omega)] at c
      exact ok_ret ⟨hM, Mx.rf (fun q hq => by omega), fun _ _ _ _ _ => ⟨rfl, rfl⟩, fun _ _ => rfl, fun i a b => by omega⟩
    · rw [nI_leI (by omega) (by omega)] at c
      have e1 : (12 : Int32) * nI a + nI j + 1 = nI (12 * a + j + 1) := by rw [i12, nI_1]
      have b0 : 12 * a + j < 768 := by omega
      have b1 : 12 * a + j + 1 < 768 := by omega
      refine ok_mR hM 16 <| ok_mR hM 16 <| ok_mA (v := wI w (m + 16) (12 * a + j + 1)) hM e1 b1 rfl <| ok_mT hM (i12 a j) b0 (fun hM1 => ?_)
      refine ok_mR hM1 17 <| ok_mR hM1 17 <| ok_mA (v := wI w (m + 17) (12 * a + j + 1)) hM1 e1 b1 (by rw [wI_so (by omega)]) <| ok_mT hM1 (i12 a j) b0 (fun hM2 => ?_)
      refine ok_mR hM2 18 <| ok_mR hM2 18 <| ok_mA (v := wI w (m + 18) (12 * a + j + 1)) hM2 e1 b1 (by rw [wI_so (by omega), wI_so (by omega)]) <| ok_mT hM2 (i12 a j) b0 (fun hM3 => ?_)
      refine ok_mR hM3 19 <| ok_mR hM3 19 <| ok_mAL (v := wL w (m + 19) (12 * a + j + 1)) hM3 e1 b1 (by rw [wL_sI, wL_sI, wL_sI]) <| ok_mTL hM3 (i12 a j) b0 (fun hM4 => ?_)
      rw [nI_1]
      have x : Mx m (fun q => m + 16 ≤ q ∧ q ≤ m + 19) w (sL (sI (sI (sI w (m + 16) (12 * a + j) (wI w (m + 16) (12 * a + j + 1))) (m + 17) (12 * a + j) (wI w (m + 17) (12 * a + j + 1))) (m + 18) (12 * a + j) (wI w (m + 18) (12 * a + j + 1))) (m + 19) (12 * a + j) (wL w (m + 19) (12 * a + j + 1))) := ((((Mx.rf (fun q hq => by omega)).sI (by omega)).sI (by omega)).sI (by omega)).sL (by omega)
      generalize hw1 : sL (sI (sI (sI w (m + 16) (12 * a + j) (wI w (m + 16) (12 * a + j + 1))) (m + 17) (12 * a + j) (wI w (m + 17) (12 * a + j + 1))) (m + 18) (12 * a + j) (wI w (m + 18) (12 * a + j + 1))) (m + 19) (12 * a + j) (wL w (m + 19) (12 * a + j + 1)) = w1 at hM4 x ⊢
      have gr : ∀ i, recM w1 m a i = if i = j then recM w m a (j + 1) else recM w m a i := by
        intro i
        rw [← hw1]
        by_cases hi : i = j <;> simp [recM, wI_s, wL_s, (wsL _ _ _ _).2.2.2.1, (wsI _ _ _ _).2.2.2.1, hi, Nat.add_assoc]
      have go : ∀ p i, 16 ≤ p → p ≤ 19 → (i < 12 * a ∨ 12 * a + 12 ≤ i) → wI w1 (m + p) i = wI w (m + p) i ∧ wL w1 (m + p) i = wL w (m + p) i := by
        intro p i p1 p2 hi
        rw [← hw1]
        constructor
        · rw [wI_sL, wI_s, if_neg (by omega), wI_s, if_neg (by omega), wI_s, if_neg (by omega)]
        · rw [wL_s, if_neg (by omega), wL_sI, wL_sI, wL_sI]
      refine ok_mono (ih (j + 1) w1 (by omega) (by omega) hM4 (by rw [x.I (by omega)]; exact s1)) (fun _ w2 z => ?_)
      obtain ⟨z1, z2, z3, z4, z5⟩ := z
      refine ⟨z1, x.tr z2, fun p i p1 p2 hi => ⟨(z3 p i p1 p2 hi).1.trans (go p i p1 p2 hi).1, (z3 p i p1 p2 hi).2.trans (go p i p1 p2 hi).2⟩, fun i hi => ?_, fun i hi1 hi2 => ?_⟩
      · rw [z4 i (by omega), gr, if_neg (by omega)]
      · by_cases e : i = j
        · rw [z4 i (by omega), gr, if_pos e, e]
        · rw [z5 i (by omega) hi2, gr, if_neg (by omega)]
theorem nI_p1 {n : Nat} (h : 0 < n) : nI n - 1 = nI (n - 1) := by
  obtain ⟨q, rfl⟩ : ∃ q, n = q + 1 := ⟨n - 1, by omega⟩
  rw [nI_pred]; rfl
theorem m_forget {a i : Nat} {d : BkD} (ha : a < 64) (hM : isM w m) (h : BKM w m a d) (hi : i < d.2.2.2.2.1.length) : ok (f_X6_forget m (nI a) (nI i) w) (fun _ w' => BkF m a w w' ∧ isM w' m ∧ BKM w' m a (wr d (d.2.2.2.2.1.eraseIdx i))) := by
  obtain ⟨s1, s2, s3, s4, s5, s6, s7, s8, s9⟩ := h
  unfold f_X6_forget
  refine ok_mR hM 15 <| ok_mA hM rfl (by show a < 64; omega) s4 <| ok_mT hM rfl (by show a < 64; omega) (fun hM1 => ?_)
  rw [nI_p1 (by omega)] at hM1 ⊢
  refine ok_mono (m_forget_loop ha (L := d.2.2.2.2.1.length - 1) (by omega) FU i _ (by unfold FU; omega) (by omega) hM1 (by rw [wI_s, if_pos ⟨rfl, rfl⟩])) (fun _ w2 z => ?_)
  obtain ⟨z1, z2, z3, z4, z5⟩ := z
  have R : ∀ k, recM (sI w (m + 15) a (nI (d.2.2.2.2.1.length - 1))) m a k = recM w m a k := fun k => by
    unfold recM
    rw [wI_so (by omega), wI_so (by omega), wI_so (by omega)]
    rfl
  have I : ∀ e k, e ≤ 21 → e ≠ 15 → e ≠ 16 → e ≠ 17 → e ≠ 18 → e ≠ 19 → wI w2 (m + e) k = wI w (m + e) k := fun e k _ _ _ _ _ _ => by rw [z2.I (by omega), wI_so (by omega)]
  refine ⟨(BkF.rf.sI (j := 15) (by omega)).l16 z2 z3, z1, (I 11 _ (by omega) (by omega) (by omega) (by omega) (by omega) (by omega)).trans s1, (I 12 _ (by omega) (by omega) (by omega) (by omega) (by omega) (by omega)).trans s2, (I 13 _ (by omega) (by omega) (by omega) (by omega) (by omega) (by omega)).trans s3, ?_, ?_, fun k hk => ?_, fun k r hk => ?_, fun c hc => (I 20 _ (by omega) (by omega) (by omega) (by omega) (by omega) (by omega)).trans (s8 c hc), fun c hc => (I 21 _ (by omega) (by omega) (by omega) (by omega) (by omega) (by omega)).trans (s9 c hc)⟩
  · rw [z2.I (by omega), wI_s, if_pos ⟨rfl, rfl⟩]
    show _ = nI (d.2.2.2.2.1.eraseIdx i).length
    rw [List.length_eraseIdx_of_lt hi]
  · show (d.2.2.2.2.1.eraseIdx i).length ≤ 12
    rw [List.length_eraseIdx_of_lt hi]; omega
  · rw [z2.L (by omega)]; exact s6 k hk
  · have hk' : (d.2.2.2.2.1.eraseIdx i)[k]? = some r := hk
    have hkl : k < d.2.2.2.2.1.length - 1 := by
      have := (List.getElem?_eq_some_iff.mp hk').1
      rwa [List.length_eraseIdx_of_lt hi] at this
    rw [List.getElem?_eraseIdx] at hk'
    by_cases e : k < i
    · rw [if_pos e] at hk'
      rw [z4 k e, R]; exact s7 k r hk'
    · rw [if_neg e] at hk'
      rw [z5 k (by omega) hkl, R]; exact s7 (k + 1) r hk'
end CT
