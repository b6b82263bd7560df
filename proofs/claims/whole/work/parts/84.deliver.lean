/-! DELIVER -/
section DV
variable {w w' : Wd} {o m S : Nat} {le : Int32} {sc : Nat → Int32} {cl : Nat → ClD} {mem kept : Nat → Nat → BkD} {up cn dy : Nat → Bool} {row : List Ltr} {held : Nat → List Ltr} {fl : List (Nat × Ltr)}
theorem c_del_up (h : RC w o S le sc cl mem kept up cn row held) {i s : Nat} {t : Ltr} (hi : i < row.length) (ht : row[i] = t) (hk : ¬ t.1.1 = 2) (hs : s < S) (hto : t.1.2.1 = nI s) (hu : up s = true) {P : Wd → Prop} (hP : ∀ (x : Nat) (w1 : Wd), RC w1 o S le sc cl mem kept up cn (row.eraseIdx i) held → LTC w1 x t → aMo o S + 45 ≤ x → x < wn w1 → ok (f_X5_takeAtServer o (some (aSv o s)) (some x) w1) (fun _ w2 => P w2 ∧ Cf o S w1 w2)) : ok (f_X5_deliver o (nI i) w) (fun v w' => v = t.1.1 ∧ P w' ∧ Cf o S w w') := by
  have k0 := h.2.1.1.1
  have r2 := h.2.1.1.2.2.2
  obtain ⟨La, hr, -⟩ := h.2.2.2.2.2.1
  obtain ⟨x, e1, e2, e3, e4⟩ := c_at h hi
  rw [ht] at e2
  unfold f_X5_deliver
  refine ok_gR k0 r2 <| ok_chk hr.1 <| ok_use e1 <| ok_f (by simp) <| ok_gR k0 r2 <| ok_chk hr.1 <| ok_call (c_rmv h hi) (fun _ w1 z => ?_)
  obtain ⟨h1, f1⟩ := z
  have e5 := e2.cf e3 e4 f1
  have e6 : x < wn w1 := Nat.lt_of_lt_of_le e4 f1.1
  have u4 := (h1.2.2.1 s hs).1.2.2.2.2.2.1
  rw [hu] at u4
  refine ok_gI e5.1.1 e5.1.2.1 <| ok_f hk <| ok_gI e5.1.1 (e5.1.2.2.1.trans hto) <| ok_chk h1.2.1.1.1 <| ok_use (c_sv_in h1 hs) <| ok_f (by simp) <| ok_gI (h1.2.2.1 s hs).1.1 u4 <| ok_f (by decide) <| ok_chk h1.2.1.1.1 <| ok_call (hP x w1 h1 e5 e3 e6) (fun _ w2 y => ?_)
  have e7 := e5.cf e3 e6 y.2
  exact ok_gI e7.1.1 e7.1.2.1 <| ok_ret ⟨rfl, y.1, f1.tr y.2⟩
theorem c_del_down (h : RC w o S le sc cl mem kept up cn row held) {i s : Nat} {t : Ltr} (hi : i < row.length) (ht : row[i] = t) (hk : ¬ t.1.1 = 2) (hs : s < S) (hto : t.1.2.1 = nI s) (hu : up s = false) : ok (f_X5_deliver o (nI i) w) (fun v w' => v = t.1.1 + 10 ∧ RC w' o S le (va_up sc 1 (sc 1 + 1)) cl mem kept up cn (row.eraseIdx i) held ∧ Cf o S w w') := by
  have k0 := h.2.1.1.1
  have r2 := h.2.1.1.2.2.2
  obtain ⟨La, hr, -⟩ := h.2.2.2.2.2.1
  obtain ⟨x, e1, e2, e3, e4⟩ := c_at h hi
  rw [ht] at e2
  unfold f_X5_deliver
  refine ok_gR k0 r2 <| ok_chk hr.1 <| ok_use e1 <| ok_f (by simp) <| ok_gR k0 r2 <| ok_chk hr.1 <| ok_call (c_rmv h hi) (fun _ w1 z => ?_)
  obtain ⟨h1, f1⟩ := z
  have e5 := e2.cf e3 e4 f1
  have e6 : x < wn w1 := Nat.lt_of_lt_of_le e4 f1.1
  have u4 := (h1.2.2.1 s hs).1.2.2.2.2.2.1
  rw [hu] at u4
  refine ok_gI e5.1.1 e5.1.2.1 <| ok_f hk <| ok_gI e5.1.1 (e5.1.2.2.1.trans hto) <| ok_chk h1.2.1.1.1 <| ok_use (c_sv_in h1 hs) <| ok_f (by simp) <| ok_gI (h1.2.2.1 s hs).1.1 u4 <| ok_t rfl ?_
  obtain ⟨h2, f2⟩ := h1.num (k := 6) (j := 1) (v := sc 1 + 1) (Or.inr (Or.inr (Or.inl ⟨rfl, rfl⟩)))
  have e7 := e5.cf e3 e6 f2
  unfold f_X5_deliver_61
  exact ok_gI h1.2.1.1.1 h1.2.1.2.1.2.2.2.1 <| ok_pI h1.2.1.1.1 <| ok_gI e7.1.1 e7.1.2.1 <| ok_ret ⟨rfl, h2, f1.tr f2⟩
theorem c_del_ans (h : RC w o S le sc cl mem kept up cn row held) {i : Nat} {t : Ltr} (hi : i < row.length) (ht : row[i] = t) (hk : t.1.1 = 2) {c q : Nat} (hc : c < 6) (hto : t.1.2.1 = nI c) (hq : q < 60) (hnum : t.2.1.2.1 = nI (q + 1)) (hcl : ClOk S (cl c)) : ok (f_X5_deliver o (nI i) w) (fun v w' => v = t.1.1 ∧ (∀ D, D = ansD (cl c) t.2.1.1 q t.2.1.2.2 t.2.2.1.2.2.1 → RC w' o S le (donS D.2 sc) (va_up cl c D.1) mem kept up cn (row.eraseIdx i) held) ∧ Cf o S w w') := by
  have k0 := h.2.1.1.1
  have r2 := h.2.1.1.2.2.2
  obtain ⟨La, hr, -⟩ := h.2.2.2.2.2.1
  obtain ⟨x, e1, e2, e3, e4⟩ := c_at h hi
  rw [ht] at e2
  unfold f_X5_deliver
  refine ok_gR k0 r2 <| ok_chk hr.1 <| ok_use e1 <| ok_f (by simp) <| ok_gR k0 r2 <| ok_chk hr.1 <| ok_call (c_rmv h hi) (fun _ w1 z => ?_)
  obtain ⟨h1, f1⟩ := z
  have e5 := e2.cf e3 e4 f1
  have e6 : x < wn w1 := Nat.lt_of_lt_of_le e4 f1.1
  refine ok_gI e5.1.1 e5.1.2.1 <| ok_t hk <| ok_chk h1.2.1.1.1 <| ok_call (c_takeAnswer h1 e5 hk e3 e6 hc hto hq hnum hcl) (fun _ w2 y => ?_)
  have e7 := e5.cf e3 e6 (y _ rfl).2
  exact ok_gI e7.1.1 e7.1.2.1 <| ok_ret ⟨rfl, fun D hD => (y D hD).1, f1.tr (y _ rfl).2⟩
theorem m_del (h : RMF w m S le sc cl mem kept up dy row held fl) (h4 : S ≤ 4) {i : Nat} {t : Ltr} (hi : i < row.length) (ht : row[i] = t) (hk : t.1.1 = 2 ∨ ∃ s, s < S ∧ t.1.2.1 = nI s ∧ up s = true) {P : Wd → Prop} (hP : ∀ (l : Nat) (w1 : Wd), RMF w1 m S le sc cl mem kept up dy (row.eraseIdx i) held ((l, t) :: fl) → ok (f_X6_deliver_70 m (nI l) t.1.1 w1) (fun v w2 => v = t.1.1 ∧ P w2 ∧ Mf m w1 w2)) : ok (f_X6_deliver m (nI i) w) (fun v w' => v = t.1.1 ∧ P w' ∧ Mf m w w') := by
  have hM := h.1.1
  obtain ⟨e50, h400⟩ := h.e50
  unfold f_X6_deliver
  refine ok_gI hM.1 e50 <| ok_use m_in ?_
  rw [if_pos ((in_row (by omega) _).mpr ⟨i, hi, rfl⟩)]
  refine ok_f (by decide) <| ok_chk hM.1 <| ok_call (m_takeOut h hi) (fun v w1 z => ?_)
  obtain ⟨l, rfl, h1, f1⟩ := z
  rw [ht] at h1
  obtain ⟨hl, -, hL⟩ := h1.hd_ne
  have hM1 := h1.1.1
  have fin : ok (f_X6_deliver_70 m (nI l) t.1.1 w1) (fun v w2 => v = t.1.1 ∧ P w2 ∧ Mf m w w2) := ok_mono (hP l w1 h1) (fun v w2 y => ⟨y.1, y.2.1, f1.tr y.2.2⟩)
  refine ok_mR hM1 25 <| ok_mA hM1 rfl hl hL.1.2.2.1 <| ok_if (fun _ => fin) (fun c1 => ?_)
  rcases hk with e | ⟨s, hs, hto, hu⟩
  · exact absurd e c1
  · have hmu := (h1.2.2.1 s hs).1
    rw [hu] at hmu
    exact ok_mR hM1 22 <| ok_mR hM1 26 <| ok_mA hM1 rfl hl (hL.1.2.2.2.1.trans hto) <| ok_mA hM1 rfl (by show s < 4; omega) hmu <| ok_f (by decide) fin
theorem m_del_down (h : RMF w m S le sc cl mem kept up dy row held fl) (h4 : S ≤ 4) {i s : Nat} {t : Ltr} (hi : i < row.length) (ht : row[i] = t) (hk : ¬ t.1.1 = 2) (hs : s < S) (hto : t.1.2.1 = nI s) (hu : up s = false) : ok (f_X6_deliver m (nI i) w) (fun v w' => v = t.1.1 + 10 ∧ RMF w' m S le (va_up sc 1 (sc 1 + 1)) cl mem kept up dy (row.eraseIdx i) held fl ∧ Mf m w w') := by
  have hM := h.1.1
  obtain ⟨e50, h400⟩ := h.e50
  unfold f_X6_deliver
  refine ok_gI hM.1 e50 <| ok_use m_in ?_
  rw [if_pos ((in_row (by omega) _).mpr ⟨i, hi, rfl⟩)]
  refine ok_f (by decide) <| ok_chk hM.1 <| ok_call (m_takeOut h hi) (fun v w1 z => ?_)
  obtain ⟨l, rfl, h1, f1⟩ := z
  rw [ht] at h1
  obtain ⟨hl, -, hL⟩ := h1.hd_ne
  have hM1 := h1.1.1
  have hmu := (h1.2.2.1 s hs).1
  rw [hu] at hmu
  obtain ⟨h2, f2⟩ := h1.free
  obtain ⟨h3, f3⟩ := h2.num (k := 3) (j := 1) (v := sc 1 + 1) (Or.inr (Or.inl ⟨rfl, rfl⟩))
  exact ok_mR hM1 25 <| ok_mA hM1 rfl hl hL.1.2.2.1 <| ok_f hk <| ok_mR hM1 22 <| ok_mR hM1 26 <| ok_mA hM1 rfl hl (hL.1.2.2.2.1.trans hto) <| ok_mA hM1 rfl (by show s < 4; omega) hmu <| ok_t rfl <| ok_mR hM1 24 <| ok_mTZ hM1 rfl hl (Or.inl rfl) (fun hM2 => ok_gI hM2.1 h2.1.2.2.2.2.1 <| ok_pI hM2.1 <| ok_ret ⟨Int32.add_comm _ _, h3, (f1.tr f2).tr f3⟩)
/-- the letter in hand is put back -/
theorem m_put {l : Nat} {t : Ltr} {y : Int32} {P : Int32 → Wd → Prop} (h : RMF w m S le sc cl mem kept up dy row held ((l, t) :: fl)) (hP : RMF (sI w (m + 24) l 0) m S le sc cl mem kept up dy row held fl → Mf m w (sI w (m + 24) l 0) → P y (sI w (m + 24) l 0)) : ok (gR w (some m) 7 30 (fun v36 => tZ w v36 102 (nI l) 0 (fun w41 => some (y, w41)))) P := by
  obtain ⟨h2, f2⟩ := h.free
  exact ok_mR h.1.1 24 <| ok_mTZ h.1.1 rfl h.hd_ne.1 (Or.inl rfl) (fun _ => ok_ret (hP h2 f2))
/-- from the class's answer to the common state -/
theorem not_cn {s : Nat} {e : Bool} (hu : up s = true) : (!(drt e false (cnf up dy) s s)) = drt e true dy s s := by
  unfold drt
  cases e with
  | false => simp [cnf, hu]
  | true => simp [va_up]
theorem cnf_drt {s : Nat} {e : Bool} (hu : up s = true) (p : Nat) : cnf up (drt e true dy s) p = drt e false (cnf up dy) s p := by
  unfold drt
  cases e with
  | false => rfl
  | true => exact cnf_dirty hu p
theorem ans_bridge {s b : Nat} {e : Bool} {d : BkD} {T : Ltr} (hu : up s = true) (h : AnsC w o S le sc cl (up2b (mxm up mem kept) s b d) kept up (drt e false (cnf up dy) s) row held s T) : RC w o S le (sfL (drt e true dy s s) sc row) cl (mxm up (up2b mem s b d) kept) kept up (cnf up (drt e true dy s)) (sfR (drt e true dy s s) row T) (sfH (drt e true dy s s) held s T) := by
  unfold AnsC at h
  rw [not_cn hu] at h
  exact h.ext (fun p q hp hq => mxm_bk hu p q) (fun _ _ _ _ => rfl) (fun _ _ => rfl) (fun p hp => cnf_drt hu p) (fun _ _ => rfl)
theorem RC.bridge {s b : Nat} {e : Bool} {d : BkD} (hu : up s = true) (h : RC w o S le sc cl (up2b (mxm up mem kept) s b d) kept up (drt e false (cnf up dy) s) row held) : RC w o S le sc cl (mxm up (up2b mem s b d) kept) kept up (cnf up (drt e true dy s)) row held := h.ext (fun p q hp hq => mxm_bk hu p q) (fun _ _ _ _ => rfl) (fun _ _ => rfl) (fun p hp => cnf_drt hu p) (fun _ _ => rfl)
-- what is kept
theorem knD_ok {op c : Nat} {i f : Int32} {d : BkD} (h : BkOk S cl op d) : BkOk S cl op (knD d c i f) := by
  refine ⟨h.1, h.2.1, fun r hr => h.2.2 r ?_⟩
  have hr' : r ∈ knR d.2.2.2.2.1 d.2.2.2.2.2.1 d.2.2.2.2.2.2 c i f := hr
  unfold knR at hr'
  split at hr'
  · exact (List.mem_filter.mp hr').1
  · split at hr'
    · exact (List.mem_filter.mp hr').1
    · exact hr'
theorem askE_ok {op c n : Nat} {i act : Int32} {p q : Int64} {j : Nat} {d : BkD} (h : BkOk S cl op d) (hc : c < 6) (ho : Own cl op c i) (hn : n ≤ 60) : BkOk S cl op (askE d c i (nI n) act p q j).2.1 := by
  unfold askE
  split
  · cases d.2.2.2.2.1.find? (recB (nI c) i (nI n)) with
    | some r => exact h
    | none =>
      show BkOk S cl op (if _ then _ else _ : Bool × BkD × Int32 × Int64).2.1
      split
      · refine ⟨h.1, h.2.1, fun r hr => ?_⟩
        rcases List.mem_append.mp hr with z | z
        · exact h.2.2 r z
        · rw [List.mem_singleton.mp z]
          exact ⟨c, n, hc, rfl, ho, rfl, hn⟩
      · exact h
  · exact h
theorem askE_code {c : Nat} {i n act : Int32} {p q : Int64} {j : Nat} {d : BkD} : ¬ (askE d c i n act p q j).2.2.1 = 1 := by
  unfold askE
  split
  · cases d.2.2.2.2.1.find? (recB (nI c) i n) with
    | some r => exact (by decide : ¬ (0 : Int32) = 1)
    | none =>
      show ¬ (if _ then _ else _ : Bool × BkD × Int32 × Int64).2.2.1 = 1
      split
      · exact (by decide : ¬ (0 : Int32) = 1)
      · exact (by decide : ¬ (2 : Int32) = 1)
  · exact (by decide : ¬ (4 : Int32) = 1)
theorem askD_ok {op c n : Nat} {lv : Bool} {i f act : Int32} {p q : Int64} {j : Nat} {d : BkD} (h : BkOk S cl op d) (hc : c < 6) (ho : Own cl op c i) (hn : n ≤ 60) : BkOk S cl op (askD lv d c i (nI n) f act p q j).2.2.1 := by
  unfold askD
  split
  · exact h
  · split
    · exact h
    · split
      · exact h
      · exact askE_ok (knD_ok h) hc ho hn
theorem askD_code {c : Nat} {lv : Bool} {i n f act : Int32} {p q : Int64} {j : Nat} {d : BkD} : (askD lv d c i n f act p q j).2.2.2.1 = 1 → (askD lv d c i n f act p q j).2.2.2.2 = d.2.2.1.toInt64 := by
  unfold askD
  split
  · intro z; exact absurd (show (3 : Int32) = 1 from z) (by decide)
  · split
    · intro z; exact absurd (show (2 : Int32) = 1 from z) (by decide)
    · split
      · intro z; rfl
      · intro z; exact absurd z askE_code
theorem ansD_ok {i code : Int32} {q : Nat} {v : Int64} {d : ClD} (h : ClOk S d) (hv : code = 1 → ∃ e, e < S ∧ v.toInt32 = nI e) : (ansD d i q code v).1.1 = d.1 ∧ ClOk S (ansD d i q code v).1 := by
  by_cases e0 : d.1 = i
  · by_cases e1 : q < d.2.2.1.length
    · rw [ansD_3 e0 e1]
      obtain ⟨h1, h2, h3, h4⟩ := h
      split
      · split
        · refine ⟨rfl, ?_, fun r hr => ?_, fun z j => ?_, h4⟩
          · show (d.2.2.1.set q _).countP isW ≤ 4
            rw [List.countP_set (h := e1)]
            have : isW (1, v, d.2.2.1[q].2.2) = false := by
              show decide ((1 : Int32) = 0) = false
              decide
            rw [this]
            simp; omega
          · rcases List.mem_or_eq_of_mem_set hr with z | z
            · exact h2 r z
            · have y := h2 _ (List.getElem_mem e1)
              rw [z]; exact y
          · show ¬ j < (d.2.2.1.set q _).length
            rw [List.length_set]; exact h3 z j
        · split
          · refine ⟨rfl, h1, h2, h3, fun b hb => ?_⟩
            show ∃ s, s < S ∧ va_up d.2.2.2 _ v.toInt32 b = nI s
            by_cases eb : b = d.2.2.1[q].2.2.1.toNatClampNeg % 8
            · rw [eb, va_up_self]; exact hv (by assumption)
            · rw [va_up_ne _ _ eb]; exact h4 b hb
          · split
            · refine ⟨rfl, ?_, fun r hr => ?_, fun z j => ?_, h4⟩
              · show (d.2.2.1.map refC).countP isW ≤ 4
                have : (d.2.2.1.map refC).countP isW = 0 := by
                  rw [List.countP_eq_zero]
                  intro r hr
                  obtain ⟨a, -, rfl⟩ := List.mem_map.mp hr
                  unfold isW refC
                  split
                  · simp
                  · simpa
                omega
              · obtain ⟨a, ha, rfl⟩ := List.mem_map.mp hr
                obtain ⟨k, hk, e⟩ := h2 a ha
                refine ⟨k, hk, ?_⟩
                unfold refC
                split
                · exact e
                · exact e
              · show ¬ j < (d.2.2.1.map refC).length
                rw [List.length_map]; exact h3 z j
            · exact ⟨rfl, h1, h2, h3, h4⟩
      · exact ⟨rfl, h1, h2, h3, h4⟩
    · rw [ansD_2 e1]; exact ⟨rfl, h⟩
  · rw [ansD_1 e0]; exact ⟨rfl, h⟩
end DV
