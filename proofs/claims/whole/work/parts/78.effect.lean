/-! AN ACT AND ITS RECORD -/
section EF
variable {w w' : Wd} {o m S : Nat} {le : Int32} {sc : Nat → Int32} {cl : Nat → ClD} {mem kept : Nat → Nat → BkD} {up cn dy : Nat → Bool} {row : List Ltr} {held : Nat → List Ltr} {fl : List (Nat × Ltr)}
def acD (d : BkD) (j : Nat) (v : Int64) : BkD := (d.1, d.2.1, d.2.2.1, va_up d.2.2.2.1 j v, d.2.2.2.2)
theorem BKM.val {a j : Nat} {d : BkD} (h : BKM w m a d) (hj : j < 4) (v : Int64) : BKM (sL w (m + 14) (4 * a + j) v) m a (acD d j v) ∧ BkF m a w (sL w (m + 14) (4 * a + j) v) := by
  obtain ⟨s1, s2, s3, s4, s5, s6, s7, s8, s9⟩ := h
  refine ⟨⟨s1, s2, s3, s4, s5, fun k hk => ?_, fun i r hi => ?_, s8, s9⟩, BkF.rf.l14 ((Mx.rf (fun q hq => by omega)).sL rfl) rfl (fun i hi => by rw [wL_s, if_neg (by omega)])⟩
  · rw [wL_s]
    show _ = va_up d.2.2.2.1 j v k
    by_cases e : k = j
    · rw [if_pos ⟨rfl, by rw [e]⟩, e, va_up_self]
    · rw [if_neg (by omega), va_up_ne _ _ e]; exact s6 k hk
  · rw [← s7 i r hi]
    unfold recM
    rw [wL_so (by omega)]
    rfl
theorem m_effect {a j l : Nat} {d : BkD} {act : Int32} {p q : Int64} (ha : a < 64) (hj : j < 4) (hl : l < 4700) (hM : isM w m) (hB : BKM w m a d) (a1 : wI w (m + 32) l = act) (a2 : wL w (m + 33) l = p) (a3 : wL w (m + 34) l = q) : ok (f_X6_effect m (nI (4 * a + j)) (nI l) w) (fun v w' => isM w' m ∧ BkF m a w w' ∧ v = actR act p (d.2.2.2.1 j) ∧ BKM w' m a (acD d j (actN act p q (d.2.2.2.1 j)))) := by
  have hix : 4 * a + j < 256 := by omega
  have hv := hB.2.2.2.2.2.1 j hj
  have W := hB.val hj
  unfold f_X6_effect
  refine ok_mR hM 14 <| ok_mAL hM rfl hix hv <| ok_mR hM 32 <| ok_mA hM rfl hl a1 <| ok_if (fun c0 => ?_) (fun c0 => ok_if (fun c1 => ?_) (fun c1 => ok_if (fun c2 => ?_) (fun c2 => ?_)))
  · refine ok_mR hM 14 <| ok_mR hM 33 <| ok_mAL hM rfl hl a2 <| ok_mTL hM rfl hix (fun hM1 => ok_ret ⟨hM1, (W p).2, ?_, ?_⟩)
    · unfold actR; rw [if_pos c0]
    · unfold actN; rw [if_pos c0]; exact (W p).1
  · refine ok_mR hM 14 <| ok_mR hM 33 <| ok_mAL hM rfl hl a2 <| ok_mTL hM rfl hix (fun hM1 => ok_mR hM1 14 <| ok_mAL (v := d.2.2.2.1 j + p) hM1 rfl hix (by rw [wL_s, if_pos ⟨rfl, rfl⟩]) <| ok_ret ⟨hM1, (W _).2, ?_, ?_⟩)
    · unfold actR; rw [if_neg c0, if_pos c1]
    · unfold actN; rw [if_neg c0, if_pos c1]; exact (W _).1
  · refine ok_mR hM 33 <| ok_mAL hM rfl hl a2 <| ok_if (fun c3 => ?_) (fun c3 => ?_)
    · have e3 := lg_cmp_z.mp c3
      refine ok_mR hM 14 <| ok_mR hM 34 <| ok_mAL hM rfl hl a3 <| ok_mTL hM rfl hix (fun hM1 => ?_)
      unfold f_X6_effect_98
      refine ok_mR hM1 33 <| ok_mAL (v := p) hM1 rfl hl (by rw [wL_so (by omega)]; exact a2) <| ok_t c3 <| ok_ret ⟨hM1, (W q).2, ?_, ?_⟩
      · unfold actR; rw [if_neg c0, if_neg c1, if_pos c2, if_pos e3]
      · unfold actN; rw [if_neg c0, if_neg c1, if_pos c2, if_pos e3]; exact (W q).1
    · have e3 : ¬ d.2.2.2.1 j = p := fun z => c3 (lg_cmp_z.mpr z)
      unfold f_X6_effect_98
      refine ok_mR hM 33 <| ok_mAL hM rfl hl a2 <| ok_f c3 <| ok_ret ⟨hM, BkF.rf, ?_, ?_⟩
      · unfold actR; rw [if_neg c0, if_neg c1, if_pos c2, if_neg e3]
      · unfold actN acD
        rw [if_neg c0, if_neg c1, if_pos c2, if_neg e3, va_up_id rfl]; exact hB
  · refine ok_mR hM 14 <| ok_mR hM 33 <| ok_mAL hM rfl hl a2 <| ok_mTL hM rfl hix (fun hM1 => ok_mR hM1 14 <| ok_mAL (v := d.2.2.2.1 j * p) hM1 rfl hix (by rw [wL_s, if_pos ⟨rfl, rfl⟩]) <| ok_ret ⟨hM1, (W _).2, ?_, ?_⟩)
    · unfold actR; rw [if_neg c0, if_neg c1, if_neg c2]
    · unfold actN; rw [if_neg c0, if_neg c1, if_neg c2]; exact (W _).1
def recB (c i n : Int32) (r : Rec) : Bool := decide (r.1 = c) && decide (r.2.1 = i) && decide (r.2.2.1 = n)
theorem recB_t {c i n : Int32} {r : Rec} : recB c i n r = true ↔ recIs c i n r := by
  unfold recB recIs
  simp only [Bool.and_eq_true, decide_eq_true_eq, and_assoc]
theorem recB_f {c i n : Int32} {r : Rec} (h : ¬ recIs c i n r) : recB c i n r = false := by
  cases e : recB c i n r with
  | false => rfl
  | true => exact absurd (recB_t.mp e) h
theorem find_n {P : Rec → Bool} {rs : List Rec} (h : ∀ r, r ∈ rs → P r = false) : rs.find? P = none := by
  rw [List.find?_eq_none]
  intro r hr
  rw [h r hr]; decide
theorem find_s {P : Rec → Bool} : ∀ {rs : List Rec} {k : Nat} {r : Rec}, rs[k]? = some r → P r = true → (∀ (q : Nat) (s : Rec), q < k → rs[q]? = some s → P s = false) → rs.find? P = some r := by
  intro rs
  induction rs with
  | nil => intro k r h; simp at h
  | cons x xs ih =>
    intro k r h hp hn
    cases k with
    | zero =>
      simp at h
      subst h
      exact List.find?_cons_of_pos hp
    | succ k =>
      have hx : P x = false := hn 0 x (by omega) (by simp)
      rw [List.find?_cons_of_neg (by rw [hx]; decide)]
      exact ih (k := k) (by simpa using h) hp (fun q s hq hs => hn (q + 1) s (by omega) (by simpa using hs))
theorem m_find {a c l s : Nat} {d : BkD} {i nn : Int32} (ha : a < 64) (hl : l < 4700) (hM : isM w m) (hB : BKM w m a d) (a4 : wI w (m + 28) l = i) (a5 : wI w (m + 29) l = nn) {K1 : Nat → Int32 → Int32 → Int32 → Int32 → Wd → Option (Unit × Wd)} {K2 : Nat → Int32 → Int32 → Int32 → Wd → Option (Unit × Wd)} {P : Unit → Wd → Prop} (h1 : d.2.2.2.2.1.find? (recB (nI c) i nn) = none → ok (K1 m (nI l) (nI s) (nI c) (nI a) w) P) (h2 : ∀ (k : Nat) (r : Rec), d.2.2.2.2.1[k]? = some r → d.2.2.2.2.1.find? (recB (nI c) i nn) = some r → ok (K2 m (nI l) (nI s) (nI (12 * a + k)) w) P) : ∀ (n j : Nat), d.2.2.2.2.1.length < n + j → j ≤ d.2.2.2.2.1.length → (∀ (k : Nat) (r : Rec), k < j → d.2.2.2.2.1[k]? = some r → recB (nI c) i nn r = false) → ok (f_X6_asked_162 K1 K2 n m (nI l) (nI s) (nI c) (nI a) (nI j) w) P := by
  obtain ⟨s1, s2, s3, s4, s5, s6, s7, s8, s9⟩ := id hB
  intro n
  induction n with
  | zero => intro j g1 g2; omega
  | succ n ih =>
    intro j g1 g2 g3
    rw [f_X6_asked_162.eq_2]
    refine ok_mR hM 15 <| ok_mA hM rfl ha s4 <| ok_if (fun c1 => ?_) (fun c1 => ?_)
    · rw [nI_leI (by omega) (by omega)] at c1
      refine h1 (find_n (fun r hr => ?_))
      obtain ⟨q, hq⟩ := List.getElem?_of_mem hr
      exact g3 q r (by have := (List.getElem?_eq_some_iff.mp hq).1; omega) hq
    · rw [nI_leI (by omega) (by omega)] at c1
      have hj : j < d.2.2.2.2.1.length := by omega
      have hb : 12 * a + j < 768 := by omega
      have hrj := s7 j _ (List.getElem?_eq_getElem hj)
      have e1 : wI w (m + 16) (12 * a + j) = d.2.2.2.2.1[j].1 := by rw [← hrj]; rfl
      have e2 : wI w (m + 17) (12 * a + j) = d.2.2.2.2.1[j].2.1 := by rw [← hrj]; rfl
      have e3 : wI w (m + 18) (12 * a + j) = d.2.2.2.2.1[j].2.2.1 := by rw [← hrj]; rfl
      have step : ¬ recIs (nI c) i nn d.2.2.2.2.1[j] → ok (f_X6_asked_245 (f_X6_asked_162 K1 K2 n) m (nI l) (nI s) (nI c) (nI a) (nI j) w) P := by
        intro hn
        unfold f_X6_asked_245
        rw [nI_1]
        refine ih (j + 1) (by omega) (by omega) (fun k r hk hr => ?_)
        by_cases e : k = j
        · subst e
          rw [List.getElem?_eq_getElem hj] at hr
          cases hr
          exact recB_f hn
        · exact g3 k r (by omega) hr
      refine ok_mR hM 16 <| ok_mA hM (i12 _ _) hb e1 <| ok_if (fun c2 => ?_) (fun c2 => step (fun z => c2 z.1))
      refine ok_mR hM 17 <| ok_mA hM (i12 _ _) hb e2 <| ok_mR hM 28 <| ok_mA hM rfl hl a4 <| ok_if (fun c3 => ?_) (fun c3 => step (fun z => c3 z.2.1))
      refine ok_mR hM 18 <| ok_mA hM (i12 _ _) hb e3 <| ok_mR hM 29 <| ok_mA hM rfl hl a5 <| ok_if (fun c4 => ?_) (fun c4 => step (fun z => c4 z.2.2))
      rw [i12]
      exact h2 j _ (List.getElem?_eq_getElem hj) (find_s (List.getElem?_eq_getElem hj) (recB_t.mpr ⟨c2, c3, c4⟩) g3)
end EF
