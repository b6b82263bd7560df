/-! COLLECT, II -/
section CU
variable {w w' : Wd} {o m S : Nat} {le : Int32} {sc : Nat → Int32} {cl : Nat → ClD} {mem kept : Nat → Nat → BkD} {up cn dy : Nat → Bool} {row : List Ltr} {held : Nat → List Ltr} {fl : List (Nat × Ltr)}
/-- a record stays while its incarnation is live -/
def kpP (cl : Nat → ClD) (t : Int32) (r : Rec) : Bool := (List.range 6).any (fun e => decide (0 < r.2.1) && decide ((cl e).1 = r.2.1) && !decide ((cl e).2.1 < t))
theorem kpP_t {t : Int32} {r : Rec} : kpP cl t r = true ↔ LivM cl t r.2.1 6 := by
  unfold kpP LivM
  rw [List.any_eq_true]
  constructor
  · rintro ⟨e, he, h⟩
    rw [List.mem_range] at he
    simp only [Bool.and_eq_true, decide_eq_true_eq, Bool.not_eq_true', decide_eq_false_iff_not] at h
    exact ⟨e, he, h.1.1, h.1.2, h.2⟩
  · rintro ⟨e, he, h1, h2, h3⟩
    refine ⟨e, List.mem_range.mpr he, ?_⟩
    simp only [Bool.and_eq_true, decide_eq_true_eq, Bool.not_eq_true', decide_eq_false_iff_not]
    exact ⟨⟨h1, h2⟩, h3⟩
theorem m_kp (h : RMF w m S le sc cl mem kept up dy row held fl) (r : Rec) : f_X6_isLive m r.2.1 w = some (bI (kpP cl (sc 0) r), w) := by
  haveI : Decidable (LivM cl (sc 0) r.2.1 6) := Classical.propDecidable _
  rw [m_live h r.2.1]
  cases e : kpP cl (sc 0) r with
  | true => rw [if_pos (kpP_t.mp e)]; rfl
  | false => rw [if_neg (fun z => by rw [kpP_t.mpr z] at e; cases e)]; rfl
theorem c_kp (h : RC w o S le sc cl mem kept up cn row held) {op : Nat} {r : Rec} (hr : RecOk cl op r) (hop : op ≤ 600) : f_X5_isLive o r.1 r.2.1 w = some (bI (kpP cl (sc 0) r), w) := by
  obtain ⟨c, n, hc, e1, e2, -⟩ := hr
  haveI : Decidable (liv (cl c) (sc 0) r.2.1) := Classical.propDecidable _
  rw [e1, c_live h hc r.2.1]
  have hl := liv_own (t := sc 0) hc e2 hop
  cases e : kpP cl (sc 0) r with
  | true => rw [if_pos (hl.mpr (kpP_t.mp e))]; rfl
  | false => rw [if_neg (fun z => by rw [kpP_t.mpr (hl.mp z)] at e; cases e)]; rfl
theorem up2b_up {s b : Nat} {d d' : BkD} : up2b (up2b mem s b d) s b d' = up2b mem s b d' := by
  funext p q
  unfold up2b
  by_cases e : p = s ∧ q = b
  · rw [if_pos e, if_pos e]
  · rw [if_neg e, if_neg e, if_neg e]
theorem up2b_id {s b : Nat} {d : BkD} (h : d = mem s b) : up2b mem s b d = mem := by
  funext p q
  unfold up2b
  by_cases e : p = s ∧ q = b
  · rw [if_pos e, h, e.1, e.2]
  · rw [if_neg e]
theorem wr_id {d : BkD} {rs : List Rec} (h : d.2.2.2.2.1 = rs) : wr d rs = d := by subst h; rfl
theorem fil_snoc (P : Rec → Bool) (L L2 : List Rec) (r : Rec) : (L.concat r).filter P ++ L2 = L.filter P ++ ((if P r then [r] else []) ++ L2) := by
  rw [List.concat_eq_append, List.filter_append, List.append_assoc]
  cases hp : P r <;> simp [hp]
theorem era_snoc (L L2 : List Rec) (r : Rec) : ((L.concat r) ++ L2).eraseIdx L.length = L ++ L2 := by
  rw [List.concat_eq_append, List.append_assoc, List.eraseIdx_append_of_length_le (Nat.le_refl _), Nat.sub_self]
  rfl
theorem get_snoc (L L2 : List Rec) (r : Rec) : ((L.concat r) ++ L2)[L.length]? = some r := by
  rw [List.getElem?_append_left (by rw [List.length_concat]; omega), List.concat_eq_append, List.getElem?_append_right (Nat.le_refl _), Nat.sub_self]
  rfl
theorem m_collect51 {s b : Nat} (hs : s < S) (h4 : S ≤ 4) (hb : b < 8) (hu : up s = true) (K : Nat → Int32 → Int32 → Int32 → Wd → Option (Int32 × Wd)) (P : Int32 → Wd → Prop) : ∀ (n : Nat) (L1 L2 : List Rec) (w : Wd) (mem : Nat → Nat → BkD) (c : Nat), L1.length < n → (mem s b).1 = 1 → (mem s b).2.2.2.2.1 = L1 ++ L2 → RMF w m S le sc cl mem kept up dy row held fl →
    (∀ w', RMF w' m S le sc cl (up2b mem s b (wr (mem s b) (L1.filter (kpP cl (sc 0)) ++ L2))) kept up dy row held fl → Mf m w w' → ok (K m (nI s) (nI (c + (L1.length - (L1.filter (kpP cl (sc 0))).length))) (nI b) w') P) →
    ok (f_X6_collect_51 K n m (nI s) (nI c) (nI b) (nI (16 * s + b)) (nI L1.length - 1) w) P := by
  intro n
  induction n with
  | zero => intro L1 L2 w mem c h1; omega
  | succ n ih =>
    intro L1 L2 w mem c h1 hst hrs h hP
    rw [f_X6_collect_51.eq_2]
    have hM := h.1.1
    have hat : 16 * s + b < 64 := by omega
    have hB := (h.2.2.2.1 s b hs hb).1 hu
    rcases List.eq_nil_or_concat L1 with rfl | ⟨L, r, rfl⟩
    · refine ok_t (by decide) (hP w ?_ Mf.rf)
      rw [up2b_id]
      · exact h
      · exact wr_id hrs
    · have hlen : (L.concat r).length = L.length + 1 := List.length_concat
      have hll : L.length < 12 := by
        have := hB.2.2.2.2.1
        rw [hrs, List.length_append, hlen] at this; omega
      have hrec : recM w m (16 * s + b) L.length = r := hB.2.2.2.2.2.2.1 _ _ (by rw [hrs]; exact get_snoc L L2 r)
      have hr2 : wI w (m + 17) (12 * (16 * s + b) + L.length) = r.2.1 := by rw [← hrec]; rfl
      rw [hlen, nI_pred]
      refine ok_f (nI_pos (by omega)) <| ok_mR hM 11 <| ok_mA hM rfl hat (hB.1.trans hst) <| ok_t rfl <| ok_mR hM 17 <| ok_mA hM (i12 _ _) (by show 12 * (16 * s + b) + L.length < 768; omega) hr2 <| ok_chk hM.1 <| ok_use (m_kp h r) ?_
      have e9 : nI L.length + (-1) = nI L.length - 1 := by rw [Int32.sub_eq_add_neg]
      have hfl : (L.filter (kpP cl (sc 0))).length ≤ L.length := List.length_filter_le _ _
      cases hp : kpP cl (sc 0) r with
      | false =>
        refine ok_t rfl <| ok_chk hM.1 <| ok_call (m_forget hat hM hB (i := L.length) (by rw [hrs, List.length_append, hlen]; omega)) (fun _ w1 z => ?_)
        obtain ⟨z1, z2, z3⟩ := z
        rw [hrs, era_snoc] at z3
        obtain ⟨h5, f5⟩ := h.bk hs hb z1 z3
        unfold f_X6_collect_101
        rw [e9, nI_1]
        refine ih L L2 w1 _ (c + 1) (by rw [hlen] at h1; omega) (by rw [up2b_self]; exact hst) (by rw [up2b_self]; rfl) h5 (fun w2 h6 f6 => ?_)
        rw [up2b_up, up2b_self] at h6
        have h7 := hP w2 (by rw [fil_snoc, hp]; exact h6) (f5.tr f6)
        have e : (L.concat r).filter (kpP cl (sc 0)) = L.filter (kpP cl (sc 0)) := by
          have := fil_snoc (kpP cl (sc 0)) L [] r
          rw [hp] at this; simpa using this
        rw [e, hlen] at h7
        rw [show c + 1 + (L.length - (L.filter (kpP cl (sc 0))).length) = c + (L.length + 1 - (L.filter (kpP cl (sc 0))).length) by omega]
        exact h7
      | true =>
        refine ok_f (by decide) ?_
        unfold f_X6_collect_101
        rw [e9]
        refine ih L (r :: L2) w mem c (by rw [hlen] at h1; omega) hst (by rw [hrs, List.concat_eq_append, List.append_assoc]; rfl) h (fun w2 h6 f6 => ?_)
        have h7 := hP w2 (by rw [fil_snoc, hp]; exact h6) f6
        have e : (L.concat r).filter (kpP cl (sc 0)) = L.filter (kpP cl (sc 0)) ++ [r] := by
          have := fil_snoc (kpP cl (sc 0)) L [] r
          rw [hp] at this; simpa using this
        rw [e, hlen, List.length_append] at h7
        rw [show c + (L.length - (L.filter (kpP cl (sc 0))).length) = c + (L.length + 1 - ((L.filter (kpP cl (sc 0))).length + [r].length)) by simp]
        exact h7
theorem m_collect51_no {s b : Nat} (hs : s < S) (h4 : S ≤ 4) (hb : b < 8) (hu : up s = true) {K : Nat → Int32 → Int32 → Int32 → Wd → Option (Int32 × Wd)} {P : Int32 → Wd → Prop} {n : Nat} {x y : Int32} (hn : 0 < n) (hst : ¬ (mem s b).1 = 1) (h : RMF w m S le sc cl mem kept up dy row held fl) (hP : ok (K m (nI s) x (nI b) w) P) : ok (f_X6_collect_51 K n m (nI s) x (nI b) (nI (16 * s + b)) y w) P := by
  obtain ⟨n, rfl⟩ : ∃ q, n = q + 1 := ⟨n - 1, by omega⟩
  rw [f_X6_collect_51.eq_2]
  have hM := h.1.1
  have hat : 16 * s + b < 64 := by omega
  have hB := (h.2.2.2.1 s b hs hb).1 hu
  exact ok_if (fun _ => hP) (fun _ => ok_mR hM 11 <| ok_mA hM rfl hat hB.1 <| ok_f hst hP)
/-- server s's buckets below j, without the dead records -/
def colM (P : Rec → Bool) (mem : Nat → Nat → BkD) (s j : Nat) : Nat → Nat → BkD := fun p q => if p = s ∧ q < j ∧ (mem p q).1 = 1 then wr (mem p q) ((mem p q).2.2.2.2.1.filter P) else mem p q
def colN (P : Rec → Bool) (mem : Nat → Nat → BkD) (s q : Nat) : Nat := if (mem s q).1 = 1 then (mem s q).2.2.2.2.1.length - ((mem s q).2.2.2.2.1.filter P).length else 0
theorem colM_0 {P : Rec → Bool} {s : Nat} : colM P mem s 0 = mem := by
  funext p q
  unfold colM
  rw [if_neg (by omega)]
theorem colM_at {P : Rec → Bool} {s j : Nat} : colM P mem s j s j = mem s j := by
  unfold colM
  rw [if_neg (by omega)]
theorem colM_n {P : Rec → Bool} {s j : Nat} (h : ¬ (mem s j).1 = 1) : colM P mem s (j + 1) = colM P mem s j := by
  funext p q
  unfold colM
  by_cases e : p = s ∧ q < j ∧ (mem p q).1 = 1
  · rw [if_pos e, if_pos ⟨e.1, by omega, e.2.2⟩]
  · rw [if_neg e, if_neg]
    rintro ⟨e1, e2, e3⟩
    by_cases e4 : q = j
    · subst e1 e4; exact h e3
    · exact e ⟨e1, by omega, e3⟩
theorem colM_s {P : Rec → Bool} {s j : Nat} (h : (mem s j).1 = 1) : up2b (colM P mem s j) s j (wr (mem s j) ((mem s j).2.2.2.2.1.filter P)) = colM P mem s (j + 1) := by
  funext p q
  unfold colM up2b
  by_cases e : p = s ∧ q = j
  · obtain ⟨rfl, rfl⟩ := e
    rw [if_pos ⟨rfl, rfl⟩, if_pos ⟨rfl, by omega, h⟩]
  · rw [if_neg e]
    show (if p = s ∧ q < j ∧ (mem p q).1 = 1 then wr (mem p q) ((mem p q).2.2.2.2.1.filter P) else mem p q) = _
    by_cases e2 : p = s ∧ q < j ∧ (mem p q).1 = 1
    · rw [if_pos e2, if_pos ⟨e2.1, by omega, e2.2.2⟩]
    · rw [if_neg e2, if_neg]
      rintro ⟨e3, e4, e5⟩
      exact e2 ⟨e3, by omega, e5⟩
theorem colN_s {P : Rec → Bool} {s j : Nat} (h : (mem s j).1 = 1) : colN P mem s j = (mem s j).2.2.2.2.1.length - ((mem s j).2.2.2.2.1.filter P).length := by unfold colN; rw [if_pos h]
theorem colN_n {P : Rec → Bool} {s j : Nat} (h : ¬ (mem s j).1 = 1) : colN P mem s j = 0 := by unfold colN; rw [if_neg h]
theorem col_b {P : Rec → Bool} {s : Nat} (h : ∀ q, q < 8 → (mem s q).2.2.2.2.1.length ≤ 12) : sumTo 8 (colN P mem s) ≤ 96 := by
  have := sumTo_le 8 (colN P mem s) (fun _ => 12) (fun i hi => by
    unfold colN
    have := h i hi
    by_cases e : (mem s i).1 = 1
    · rw [if_pos e]; omega
    · rw [if_neg e]; omega)
  rw [sumTo_const] at this
  omega
theorem m_collect26 {s : Nat} (hs : s < S) (h4 : S ≤ 4) (hu : up s = true) (hN : sumTo 8 (colN (kpP cl (sc 0)) mem s) ≤ 96) : ∀ (n j : Nat) (w : Wd), 8 < n + j → j ≤ 8 → RMF w m S le sc cl (colM (kpP cl (sc 0)) mem s j) kept up dy row held fl →
    ok (f_X6_collect_26 f_X6_collect_113 n m (nI s) (nI (sumTo j (colN (kpP cl (sc 0)) mem s))) (nI j) w) (fun v w' => v = nI (sumTo 8 (colN (kpP cl (sc 0)) mem s)) ∧ RMF w' m S le sc cl (colM (kpP cl (sc 0)) mem s 8) kept up (if sumTo 8 (colN (kpP cl (sc 0)) mem s) = 0 then dy else va_up dy s true) row held fl ∧ Mf m w w') := by
  intro n
  induction n with
  | zero => intro j w h1 h2; omega
  | succ n ih =>
    intro j w h1 h2 h
    have hM := h.1.1
    rw [f_X6_collect_26.eq_2]
    refine ok_if (fun c => ?_) (fun c => ?_)
    · rw [show (8 : Int32) = nI 8 from rfl, nI_leI (by omega) (by omega)] at c
      have hj : j = 8 := by omega
      subst hj
      unfold f_X6_collect_113
      have hd := (h.2.2.1 s hs).2
      refine ok_mR hM 23 <| ok_mA hM rfl (by show s < 4; omega) hd <| ok_if (fun c2 => ?_) (fun c2 => ?_)
      · rw [← nI_0, nI_leI (by omega) (by omega)] at c2
        have e0 : sumTo 8 (colN (kpP cl (sc 0)) mem s) = 0 := by omega
        have e1 : bI (dy s) ||| 0 = bI (dy s) := by cases dy s <;> rfl
        rw [e1]
        refine ok_mTZ hM rfl (by show s < 4; omega) (by cases dy s; exact Or.inl rfl; exact Or.inr rfl) (fun _ => ok_ret ⟨rfl, ?_⟩)
        rw [sI_same hd, if_pos e0]
        exact ⟨h, Mf.rf⟩
      · rw [← nI_0, nI_leI (by omega) (by omega)] at c2
        have e1 : bI (dy s) ||| 1 = 1 := by cases dy s <;> rfl
        rw [e1]
        refine ok_mTZ hM rfl (by show s < 4; omega) (Or.inr rfl) (fun _ => ok_ret ⟨rfl, ?_⟩)
        rw [if_neg (by omega)]
        exact h.dirty hs
    · rw [show (8 : Int32) = nI 8 from rfl, nI_leI (by omega) (by omega)] at c
      have hj : j < 8 := by omega
      have hat : 16 * s + j < 64 := by omega
      have hB := (h.2.2.2.1 s j hs hj).1 hu
      rw [colM_at] at hB
      refine ok_mR hM 15 <| ok_mA hM (i16 s j) hat hB.2.2.2.1 ?_
      rw [i16 s j]
      by_cases hst : (mem s j).1 = 1
      · refine m_collect51 hs h4 hj hu _ _ FU (mem s j).2.2.2.2.1 [] w _ _ (by have := hB.2.2.2.2.1; unfold FU; omega) (by rw [colM_at]; exact hst) (by rw [colM_at, List.append_nil]) h (fun w1 h5 f5 => ?_)
        rw [colM_at, List.append_nil, colM_s hst] at h5
        rw [← colN_s (P := kpP cl (sc 0)) hst]
        unfold f_X6_collect_107
        rw [nI_1]
        exact ok_mono (ih (j + 1) w1 (by omega) (by omega) h5) (fun v w2 z => ⟨z.1, z.2.1, f5.tr z.2.2⟩)
      · refine m_collect51_no hs h4 hj hu (by unfold FU; omega) (by rw [colM_at]; exact hst) h ?_
        unfold f_X6_collect_107
        rw [nI_1]
        have e : sumTo j (colN (kpP cl (sc 0)) mem s) = sumTo (j + 1) (colN (kpP cl (sc 0)) mem s) := by
          show _ = sumTo j _ + colN _ mem s j
          rw [colN_n hst]; rfl
        rw [e]
        exact ih (j + 1) w (by omega) (by omega) (by rw [colM_n hst]; exact h)
theorem m_collect (h : RMF w m S le sc cl mem kept up dy row held fl) (h2 : 2 ≤ S) (h4 : S ≤ 4) {s : Nat} (hs : s < S) (hu : up s = true) (hN : sumTo 8 (colN (kpP cl (sc 0)) mem s) ≤ 96) : ok (f_X6_collect m (nI s) w) (fun v w' => v = nI (sumTo 8 (colN (kpP cl (sc 0)) mem s)) ∧ RMF w' m S le sc cl (colM (kpP cl (sc 0)) mem s 8) kept up (if sumTo 8 (colN (kpP cl (sc 0)) mem s) = 0 then dy else va_up dy s true) row held fl ∧ Mf m w w') := by
  have hM := h.1.1
  have hmu := (h.2.2.1 s hs).1
  rw [hu] at hmu
  unfold f_X6_collect
  refine ok_chk hM.1 <| ok_use (m_sv_in h h2 h4 hs) <| ok_f (by decide) <| ok_mR hM 22 <| ok_mA hM rfl (by show s < 4; omega) hmu <| ok_f (by decide) ?_
  exact m_collect26 hs h4 hu hN FU 0 w (by unfold FU; omega) (by omega) (by rw [colM_0]; exact h)
theorem c_dead_loop {s b op : Nat} (hs : s < S) (hb : b < 8) (hop : op ≤ 600) : ∀ (n : Nat) (L1 L2 : List Rec) (w : Wd) (mem : Nat → Nat → BkD) (x : Int32), L1.length < n → (mem s b).2.2.2.2.1 = L1 ++ L2 → (∀ r, r ∈ L1 → RecOk cl op r) → RC w o S le sc cl mem kept up cn row held →
    ok (f_X5_removeDeadRecords_9 n o (some (aMb o s b)) x (nI L1.length - 1) w) (fun v w' => v = x - nI (L1.filter (kpP cl (sc 0)) ++ L2).length ∧ RC w' o S le sc cl (up2b mem s b (wr (mem s b) (L1.filter (kpP cl (sc 0)) ++ L2))) kept up cn row held ∧ Cf o S w w') := by
  intro n
  induction n with
  | zero => intro L1 L2 w mem x h1; omega
  | succ n ih =>
    intro L1 L2 w mem x h1 hrs hok h
    rw [f_X5_removeDeadRecords_9.eq_2]
    have hB := (h.2.2.2.2.1 s b hs hb).1
    obtain ⟨⟨⟨k0, l4, l5, l6, l7, l8, l9, l10⟩, ⟨k1, n1⟩, ⟨k2, n2⟩, ⟨k3, n3⟩, ⟨k4, n4⟩, -⟩, h0, h1', h2, h3, hl, hv, hr, hk, hf⟩ := id hB
    rcases List.eq_nil_or_concat L1 with rfl | ⟨L, r, rfl⟩
    · refine ok_t (by decide) <| ok_gI k0 h3 <| ok_ret ⟨?_, ?_, Cf.rf⟩
      · rw [hrs]; rfl
      · rw [up2b_id]
        · exact h
        · exact wr_id hrs
    · have hlen : (L.concat r).length = L.length + 1 := List.length_concat
      have hll : L.length < 12 := by
        rw [hrs, List.length_append, hlen] at hl; omega
      have hrec : recAt w (aMb o s b) L.length = r := hr _ _ (by rw [hrs]; exact get_snoc L L2 r)
      have e1 : wI w (aMb o s b + 2) L.length = r.1 := by rw [← hrec]; rfl
      have e2 : wI w (aMb o s b + 3) L.length = r.2.1 := by rw [← hrec]; rfl
      have hrok : RecOk cl op r := hok r (by rw [List.concat_eq_append]; simp)
      have hok' : ∀ q, q ∈ L → RecOk cl op q := fun q hq => hok q (by rw [List.concat_eq_append]; simp [hq])
      rw [hlen, nI_pred]
      refine ok_f (nI_pos (by omega)) <| ok_gR k0 l5 <| ok_aI rfl k2 (by omega) (by omega) e1 <| ok_gR k0 l6 <| ok_aI rfl k3 (by omega) (by omega) e2 <| ok_chk h.2.1.1.1 <| ok_use (c_kp h hrok hop) ?_
      have e9 : nI L.length + (-1) = nI L.length - 1 := by rw [Int32.sub_eq_add_neg]
      cases hp : kpP cl (sc 0) r with
      | false =>
        refine ok_t rfl <| ok_chk k0 <| ok_call (bk_rm hB (i := L.length) (by rw [hrs, List.length_append, hlen]; omega)) (fun _ w1 z => ?_)
        obtain ⟨z1, z2⟩ := z
        rw [hrs, era_snoc] at z2
        obtain ⟨h5, f5⟩ := h.bkt hs hb (d := wr (mem s b) (L ++ L2)) z1 z2
        unfold f_X5_removeDeadRecords_37
        rw [e9]
        refine ok_mono (ih L L2 w1 _ x (by rw [hlen] at h1; omega) (by rw [up2b_self]; rfl) hok' h5) (fun v w2 y => ?_)
        obtain ⟨y1, y2, y3⟩ := y
        rw [up2b_up, up2b_self] at y2
        rw [fil_snoc, hp]
        exact ⟨y1, y2, f5.tr y3⟩
      | true =>
        refine ok_f (by decide) ?_
        unfold f_X5_removeDeadRecords_37
        rw [e9]
        refine ok_mono (ih L (r :: L2) w mem x (by rw [hlen] at h1; omega) (by rw [hrs, List.concat_eq_append, List.append_assoc]; rfl) hok' h) (fun v w2 y => ?_)
        rw [fil_snoc, hp]
        exact y
theorem c_dead {s b op : Nat} (hs : s < S) (hb : b < 8) (hop : op ≤ 600) (h : RC w o S le sc cl mem kept up cn row held) (hok : ∀ r, r ∈ (mem s b).2.2.2.2.1 → RecOk cl op r) : ok (f_X5_removeDeadRecords o (some (aMb o s b)) w) (fun v w' => v = nI ((mem s b).2.2.2.2.1.length - ((mem s b).2.2.2.2.1.filter (kpP cl (sc 0))).length) ∧ RC w' o S le sc cl (up2b mem s b (wr (mem s b) ((mem s b).2.2.2.2.1.filter (kpP cl (sc 0))))) kept up cn row held ∧ Cf o S w w') := by
  have hB := (h.2.2.2.2.1 s b hs hb).1
  unfold f_X5_removeDeadRecords
  refine ok_gI hB.1.1.1 hB.2.2.2.2.1 ?_
  have hl : (mem s b).2.2.2.2.1.length ≤ 12 := hB.2.2.2.2.2.1
  refine ok_mono (c_dead_loop hs hb hop FU (mem s b).2.2.2.2.1 [] w mem (nI (mem s b).2.2.2.2.1.length) (by unfold FU; omega) (by rw [List.append_nil]) hok h) (fun v w' z => ?_)
  rw [List.append_nil, nsub (List.length_filter_le _ _)] at z
  exact z
theorem c_collect27 {s op : Nat} (hs : s < S) (hop : op ≤ 600) (hN : sumTo 8 (colN (kpP cl (sc 0)) mem s) ≤ 96) (hok : ∀ b, b < 8 → ∀ r, r ∈ (mem s b).2.2.2.2.1 → RecOk cl op r) : ∀ (n j : Nat) (w : Wd), 8 < n + j → j ≤ 8 → RC w o S le sc cl (colM (kpP cl (sc 0)) mem s j) kept up cn row held →
    ok (f_X5_collect_27 f_X5_collect_71 n o (some (aSv o s)) (nI (sumTo j (colN (kpP cl (sc 0)) mem s))) (nI j) w) (fun v w' => v = nI (sumTo 8 (colN (kpP cl (sc 0)) mem s)) ∧ RC w' o S le sc cl (colM (kpP cl (sc 0)) mem s 8) kept up (if sumTo 8 (colN (kpP cl (sc 0)) mem s) = 0 then cn else va_up cn s false) row held ∧ Cf o S w w') := by
  intro n
  induction n with
  | zero => intro j w h1 h2; omega
  | succ n ih =>
    intro j w h1 h2 h
    obtain ⟨⟨ks, -, r1, -, -, u4, u5⟩, -⟩ := h.2.2.1 s hs
    rw [f_X5_collect_27.eq_2]
    refine ok_if (fun c => ?_) (fun c => ?_)
    · rw [show (8 : Int32) = nI 8 from rfl, nI_leI (by omega) (by omega)] at c
      have hj : j = 8 := by omega
      subst hj
      unfold f_X5_collect_71
      refine ok_if (fun c2 => ?_) (fun c2 => ?_)
      · rw [← nI_0, nI_leI (by omega) (by omega)] at c2
        have e0 : sumTo 8 (colN (kpP cl (sc 0)) mem s) = 0 := by omega
        rw [if_pos e0]
        exact ok_ret ⟨rfl, h, Cf.rf⟩
      · rw [← nI_0, nI_leI (by omega) (by omega)] at c2
        rw [if_neg (by omega)]
        refine ok_pZ ks (Or.inl rfl) <| ok_ret ⟨rfl, ?_⟩
        obtain ⟨q1, q2⟩ := h.mark hs (up s) false (Or.inr ⟨rfl, rfl⟩)
        exact ⟨q1.ext (fun _ _ _ _ => rfl) (fun _ _ _ _ => rfl) (fun p hp => by by_cases e : p = s <;> simp [va_up, e]) (fun _ _ => rfl) (fun _ _ => rfl), q2⟩
    · rw [show (8 : Int32) = nI 8 from rfl, nI_leI (by omega) (by omega)] at c
      have hj : j < 8 := by omega
      have hB := (h.2.2.2.2.1 s j hs hj).1
      rw [colM_at] at hB
      refine ok_chk ks <| ok_use (c_bk_in h hs hj) <| ok_f (by simp) <| ok_gI hB.1.1.1 hB.2.1 <| ok_if (fun c3 => ?_) (fun c3 => ?_)
      · have hst : (mem s j).1 = 1 := c3
        refine ok_chk h.2.1.1.1 <| ok_call (c_dead hs hj hop h (by rw [colM_at]; exact hok j hj)) (fun v w1 z => ?_)
        obtain ⟨z1, z2, z3⟩ := z
        rw [colM_at] at z1 z2
        rw [colM_s hst] at z2
        rw [z1, ← colN_s (P := kpP cl (sc 0)) hst, nI_add]
        unfold f_X5_collect_65
        rw [nI_1]
        exact ok_mono (ih (j + 1) w1 (by omega) (by omega) z2) (fun v w2 z => ⟨z.1, z.2.1, z3.tr z.2.2⟩)
      · have hst : ¬ (mem s j).1 = 1 := c3
        unfold f_X5_collect_65
        rw [nI_1]
        have e : sumTo j (colN (kpP cl (sc 0)) mem s) = sumTo (j + 1) (colN (kpP cl (sc 0)) mem s) := by
          show _ = sumTo j _ + colN _ mem s j
          rw [colN_n hst]; rfl
        rw [e]
        exact ih (j + 1) w (by omega) (by omega) (by rw [colM_n hst]; exact h)
theorem c_collect (h : RC w o S le sc cl mem kept up cn row held) {s op : Nat} (hs : s < S) (hu : up s = true) (hop : op ≤ 600) (hN : sumTo 8 (colN (kpP cl (sc 0)) mem s) ≤ 96) (hok : ∀ b, b < 8 → ∀ r, r ∈ (mem s b).2.2.2.2.1 → RecOk cl op r) : ok (f_X5_collect o (nI s) w) (fun v w' => v = nI (sumTo 8 (colN (kpP cl (sc 0)) mem s)) ∧ RC w' o S le sc cl (colM (kpP cl (sc 0)) mem s 8) kept up (if sumTo 8 (colN (kpP cl (sc 0)) mem s) = 0 then cn else va_up cn s false) row held ∧ Cf o S w w') := by
  obtain ⟨⟨ks, -, r1, -, -, u4, u5⟩, -⟩ := h.2.2.1 s hs
  rw [hu] at u4
  unfold f_X5_collect
  refine ok_chk h.2.1.1.1 <| ok_use (c_sv_in h hs) <| ok_f (by simp) <| ok_gI ks u4 <| ok_f (by decide) ?_
  exact c_collect27 hs hop hN hok FU 0 w (by unfold FU; omega) (by omega) (by rw [colM_0]; exact h)
theorem st_collect (x : Int32) : Same2 o S le (f_X5_collect o x) (f_X6_collect (aMo o S) x) := by
  rintro w k hk ⟨sc, cl, mem, kept, up, dy, row, held, hR, hI⟩
  have k0 := hR.1.2.1.1.1
  have m0 := hR.2.1.1.1
  have hM := hR.2.1.1
  have h2 := hR.1.1.1
  have h4 := hR.1.1.2.1
  have out : (x < 0 ∨ nI S ≤ x) → ∃ v w1 w2, f_X5_collect o x w = some (v, w1) ∧ wK w1 (aMo o S) = 7 ∧ f_X6_collect (aMo o S) x w1 = some (v, w2) ∧ Rel w2 o S le (k + 1) := by
    intro hx
    refine mkSame (r := -1) hR hI hk (ok_eq ?_) (ok_eq ?_)
    · unfold f_X5_collect
      exact ok_chk k0 (ok_use (c_sv_out hR.1 hx) (ok_t rfl (ok_ret ⟨rfl, rfl⟩)))
    · unfold f_X6_collect
      exact ok_chk m0 (ok_use (m_sv_out hR.2 h2 h4 hx) (ok_t rfl (ok_ret ⟨rfl, rfl⟩)))
  rcases pk_ix x (n := S) (by omega) with hx | hx | ⟨s, hs, rfl⟩
  · exact out (Or.inl hx)
  · exact out (Or.inr hx)
  cases hu : up s with
  | false =>
    obtain ⟨⟨ks, -, r1, -, -, u4, u5⟩, -⟩ := hR.1.2.2.1 s hs
    have hmu := (hR.2.2.2.1 s hs).1
    rw [hu] at u4 hmu
    refine mkSame (r := -3) hR hI hk (ok_eq ?_) (ok_eq ?_)
    · unfold f_X5_collect
      exact ok_chk k0 <| ok_use (c_sv_in hR.1 hs) <| ok_f (by simp) <| ok_gI ks u4 <| ok_t rfl <| ok_ret ⟨rfl, rfl⟩
    · unfold f_X6_collect
      exact ok_chk m0 <| ok_use (m_sv_in hR.2 h2 h4 hs) <| ok_f (by decide) <| ok_mR hM 22 <| ok_mA hM rfl (by show s < 4; omega) hmu <| ok_t rfl <| ok_ret ⟨rfl, rfl⟩
  | true =>
    obtain ⟨op, hopk, -, -, hbk, -, -⟩ := id hI.2.1
    have hk5 := hI.1
    have em : ∀ b, mxm up mem kept s b = mem s b := fun b => by unfold mxm; rw [hu]; rfl
    have eN : colN (kpP cl (sc 0)) (mxm up mem kept) s = colN (kpP cl (sc 0)) mem s := by
      funext q
      unfold colN
      rw [em q]
    have hN : sumTo 8 (colN (kpP cl (sc 0)) mem s) ≤ 96 := col_b (fun q hq => ((hR.2.2.2.2.1 s q hs hq).1 hu).2.2.2.2.1)
    have hC := c_collect (op := op) hR.1 hs hu (by omega) (by rw [eN]; exact hN) (fun b hb r hr => ((hbk s b hs hb).1 hu).2.2 r (by rw [em b] at hr; exact hr))
    rw [eN] at hC
    refine mkStep hR (ok_mono hC (fun v w' z => ⟨z.1, z.2.1.ext (fun p q hp hq => ?_) (fun _ _ _ _ => rfl) (fun _ _ => rfl) (fun p hp => ?_) (fun _ _ => rfl), z.2.2⟩)) (fun w1 h1 => m_collect h1 h2 h4 hs hu hN) ((hI.up hk).bks (fun op a0 a1 a2 a3 p q hp hq => ⟨fun hup => ?_, (a2 p q hp hq).2⟩))
    · unfold mxm colM
      by_cases e : p = s
      · subst e
        simp [hu]
      · simp [e]
    · by_cases e0 : sumTo 8 (colN (kpP cl (sc 0)) mem s) = 0
      · rw [if_pos e0, if_pos e0]
      · rw [if_neg e0, if_neg e0]; exact cnf_dirty hu p
    · have hb0 := (a2 p q hp hq).1 hup
      unfold colM
      by_cases e : p = s ∧ q < 8 ∧ (mem p q).1 = 1
      · rw [if_pos e]
        exact ⟨hb0.1, hb0.2.1, fun r hr => hb0.2.2 r (List.mem_filter.mp hr |>.1)⟩
      · rw [if_neg e]; exact hb0
end CU
