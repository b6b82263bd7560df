/-! CALL -/
section CB
variable {w w' : Wd} {o m S : Nat} {le : Int32} {sc : Nat → Int32} {cl : Nat → ClD} {mem kept : Nat → Nat → BkD} {up cn dy : Nat → Bool} {row : List Ltr} {held : Nat → List Ltr} {fl : List (Nat × Ltr)}
/-- client data with one call more -/
def addC (d : ClD) (k t : Int32) (p q : Int64) : ClD := (d.1, d.2.1, d.2.2.1 ++ [(0, 0, k, t, p, q)], d.2.2.2)
theorem addC_i {d : ClD} {k t : Int32} {p q : Int64} {e : ClD} (h : e = addC d k t p q) : d.2.2.1.length < e.2.2.1.length ∧ ∀ (hi : d.2.2.1.length < e.2.2.1.length), e.2.2.1[d.2.2.1.length].2.2.1 = k := by
  subst h
  unfold addC
  refine ⟨by simp, fun hi => by simp⟩
theorem c_call (h : RC w o S le sc cl mem kept up cn row held) {c k : Nat} {t : Int32} {p q : Int64} {cl1 : Nat → ClD} (hc : c < 6) (hk : k < 32) (ht : ¬ t < 0 ∧ t ≤ 3) (hi : ¬ (cl c).1 = 0) (h60 : (cl c).2.2.1.length < 60) (hw : (cl c).2.2.1.countP isW < 4) (e1 : cl1 = va_up cl c (addC (cl c) (nI k) t p q)) (hj : (cl c).2.2.1.length < (cl1 c).2.2.1.length) : ok (f_X5_call o (nI c) (nI k) t p q w) (fun v w' => v = nI ((cl c).2.2.1.length + 1) ∧ RC w' o S le (goL sc row) cl1 mem kept up cn (goR row (mkReq (cl1 c) c (cl c).2.2.1.length k (cl1 c).2.2.1[(cl c).2.2.1.length])) held ∧ Cf o S w w') := by
  have k0 := h.2.1.1.1
  have hcl := h.2.2.2.1 c hc
  have kc := hcl.1.1.1
  have ec : cl1 c = addC (cl c) (nI k) t p q := by rw [e1, va_up_self]
  unfold f_X5_call
  refine ok_chk k0 (ok_use (c_cl_in h hc) (ok_f (by simp) (ok_f (nI_pos (by omega)) (ok_f ?_ (ok_f ht.1 (ok_t ht.2 (ok_gI kc hcl.2.2.1 (ok_f hi (ok_gI kc hcl.2.2.2.2.1 (ok_f ?_ (ok_chk kc (ok_use (cl_wait hcl) (ok_t ?_ (ok_chk kc (ok_call (cl_new hcl h60 (nI k) t p q) (fun v w1 z => ?_))))))))))))))))
  · rw [show (32 : Int32) = nI 32 from rfl, nI_leI (by omega) (by omega)]; omega
  · rw [show (60 : Int32) = nI 60 from rfl, nI_leI (by omega) (by omega)]; omega
  · rw [show (4 : Int32) = nI 4 from rfl, nI_ltI (by omega) (by omega)]; exact hw
  · obtain ⟨rfl, z1, z2⟩ := z
    obtain ⟨h1, f1⟩ := h.cli hc (d := addC (cl c) (nI k) t p q) z1 z2
    rw [← e1] at h1
    refine ok_call (c_reqOf h1 hc hj hk ((addC_i ec).2 hj)) (fun v w2 u => ?_)
    obtain ⟨rfl, u1, u2, u3⟩ := u
    obtain ⟨h5, f5⟩ := h1.nw u1
    exact ok_chk h5.2.1.1.1 (ok_call (c_send h5 u3 h1.1.2.2.2 u2) (fun _ w2 u => ok_ret ⟨rfl, u.1, (f1.tr f5).tr u.2⟩))
theorem m_call (h : RMF w m S le sc cl mem kept up dy row held fl) (h4 : S ≤ 4) (hfl : fl.length ≤ 600) {c k : Nat} {t : Int32} {p q : Int64} {cl1 : Nat → ClD} (hc : c < 6) (hk : k < 32) (ht : ¬ t < 0 ∧ t ≤ 3) (hi : ¬ (cl c).1 = 0) (h60 : (cl c).2.2.1.length < 60) (hw : (cl c).2.2.1.countP isW < 4) (e1 : cl1 = va_up cl c (addC (cl c) (nI k) t p q)) (hj : (cl c).2.2.1.length < (cl1 c).2.2.1.length) : ok (f_X6_call m (nI c) (nI k) t p q w) (fun v w' => v = nI ((cl c).2.2.1.length + 1) ∧ RMF w' m S le (goL sc row) cl1 mem kept up dy (goR row (mkReq (cl1 c) c (cl c).2.2.1.length k (cl1 c).2.2.1[(cl c).2.2.1.length])) held fl ∧ Mf m w w') := by
  have hM := h.1.1
  obtain ⟨a1, a2, a3, a4, a5, a6⟩ := h.2.1 c hc
  have ec : cl1 c = addC (cl c) (nI k) t p q := by rw [e1, va_up_self]
  have hb : 60 * c + (cl c).2.2.1.length < 360 := by omega
  unfold f_X6_call
  refine ok_use m_isClient ?_
  rw [if_pos (in6 hc)]
  refine ok_f (by decide) (ok_use m_in ?_)
  have hin : 0 ≤ nI k ∧ nI k ≤ 31 := ⟨nI_pos' (by omega), (nI_leI (a := k) (b := 31) (by omega) (by omega)).mpr (by omega)⟩
  rw [if_pos hin]
  refine ok_f (by decide) (ok_use m_in ?_)
  have ht' : 0 ≤ t ∧ t ≤ 3 := ⟨Int32.not_lt.mp ht.1, ht.2⟩
  rw [if_pos ht']
  refine ok_f (by decide) <| ok_mR hM 1 <| ok_mA hM rfl hc a1 <| ok_f hi <| ok_chk hM.1 <| ok_use (m_wait hM hc (h.2.1 c hc)) <| ok_f ?_ ?_
  · rw [show (4 : Int32) = nI 4 from rfl, nI_eq (by omega) (by omega)]; omega
  refine ok_mR hM 3 <| ok_mA hM rfl hc a3 <| ok_f ?_ ?_
  · rw [show (60 : Int32) = nI 60 from rfl, nI_eq (by omega) (by omega)]; omega
  refine ok_mR hM 3 <| ok_mA hM rfl hc a3 <| ok_mR hM 3 <| ok_mA hM rfl hc a3 <| ok_mT hM rfl hc (fun hM1 => ?_)
  refine ok_mR hM1 5 (ok_mT hM1 (m60 c _) hb (fun hM2 => ok_mR hM2 6 (ok_mTL hM2 (m60 c _) hb (fun hM3 => ok_mR hM3 7 (ok_mT hM3 (m60 c _) hb (fun hM4 => ok_mR hM4 8 (ok_mT hM4 (m60 c _) hb (fun hM5 => ok_mR hM5 9 (ok_mTL hM5 (m60 c _) hb (fun hM6 => ok_mR hM6 10 (ok_mTL hM6 (m60 c _) hb (fun hM7 => ?_))))))))))))
  rw [nI_1] at hM7 ⊢
  have g : Mx m (fun q => m + 1 ≤ q ∧ q ≤ m + 10) w (sL (sL (sI (sI (sL (sI (sI w (m + 3) c (nI ((cl c).2.2.1.length + 1))) (m + 5) (60 * c + (cl c).2.2.1.length) 0) (m + 6) (60 * c + (cl c).2.2.1.length) 0) (m + 7) (60 * c + (cl c).2.2.1.length) (nI k)) (m + 8) (60 * c + (cl c).2.2.1.length) t) (m + 9) (60 * c + (cl c).2.2.1.length) p) (m + 10) (60 * c + (cl c).2.2.1.length) q) := ((((((((Mx.rf (fun q hq => by omega)).sI (by omega)).sI (by omega)).sL (by omega)).sI (by omega)).sI (by omega)).sL (by omega)).sL (by omega))
  have f3 : ∀ i, wI (sL (sL (sI (sI (sL (sI (sI w (m + 3) c (nI ((cl c).2.2.1.length + 1))) (m + 5) (60 * c + (cl c).2.2.1.length) 0) (m + 6) (60 * c + (cl c).2.2.1.length) 0) (m + 7) (60 * c + (cl c).2.2.1.length) (nI k)) (m + 8) (60 * c + (cl c).2.2.1.length) t) (m + 9) (60 * c + (cl c).2.2.1.length) p) (m + 10) (60 * c + (cl c).2.2.1.length) q) (m + 3) i = if i = c then nI ((cl c).2.2.1.length + 1) else wI w (m + 3) i := fun i => by simp [wI_s, (wsL _ _ _ _).2.2.2.1]
  have f1 : ∀ j i, j ≠ 3 → j ≤ 4 → wI (sL (sL (sI (sI (sL (sI (sI w (m + 3) c (nI ((cl c).2.2.1.length + 1))) (m + 5) (60 * c + (cl c).2.2.1.length) 0) (m + 6) (60 * c + (cl c).2.2.1.length) 0) (m + 7) (60 * c + (cl c).2.2.1.length) (nI k)) (m + 8) (60 * c + (cl c).2.2.1.length) t) (m + 9) (60 * c + (cl c).2.2.1.length) p) (m + 10) (60 * c + (cl c).2.2.1.length) q) (m + j) i = wI w (m + j) i := fun j i b1 b2 => by
    simp only [wI_s, (wsL _ _ _ _).2.2.2.1]
    rw [if_neg (by omega), if_neg (by omega), if_neg (by omega), if_neg (by omega)]
  have f5 : ∀ j i, 5 ≤ j → j ≤ 10 → i ≠ 60 * c + (cl c).2.2.1.length → wI (sL (sL (sI (sI (sL (sI (sI w (m + 3) c (nI ((cl c).2.2.1.length + 1))) (m + 5) (60 * c + (cl c).2.2.1.length) 0) (m + 6) (60 * c + (cl c).2.2.1.length) 0) (m + 7) (60 * c + (cl c).2.2.1.length) (nI k)) (m + 8) (60 * c + (cl c).2.2.1.length) t) (m + 9) (60 * c + (cl c).2.2.1.length) p) (m + 10) (60 * c + (cl c).2.2.1.length) q) (m + j) i = wI w (m + j) i ∧ wL (sL (sL (sI (sI (sL (sI (sI w (m + 3) c (nI ((cl c).2.2.1.length + 1))) (m + 5) (60 * c + (cl c).2.2.1.length) 0) (m + 6) (60 * c + (cl c).2.2.1.length) 0) (m + 7) (60 * c + (cl c).2.2.1.length) (nI k)) (m + 8) (60 * c + (cl c).2.2.1.length) t) (m + 9) (60 * c + (cl c).2.2.1.length) p) (m + 10) (60 * c + (cl c).2.2.1.length) q) (m + j) i = wL w (m + j) i := fun j i b1 b2 b3 => by
    simp only [wI_s, wL_s, (wsL _ _ _ _).2.2.2.1, (wsI _ _ _ _).2.2.2.1]
    rw [if_neg (fun z => b3 z.2), if_neg (fun z => b3 z.2), if_neg (fun z => b3 z.2), if_neg (by omega), if_neg (fun z => b3 z.2), if_neg (fun z => b3 z.2), if_neg (fun z => b3 z.2)]
    exact ⟨rfl, rfl⟩
  have fN : calM (sL (sL (sI (sI (sL (sI (sI w (m + 3) c (nI ((cl c).2.2.1.length + 1))) (m + 5) (60 * c + (cl c).2.2.1.length) 0) (m + 6) (60 * c + (cl c).2.2.1.length) 0) (m + 7) (60 * c + (cl c).2.2.1.length) (nI k)) (m + 8) (60 * c + (cl c).2.2.1.length) t) (m + 9) (60 * c + (cl c).2.2.1.length) p) (m + 10) (60 * c + (cl c).2.2.1.length) q) m c (cl c).2.2.1.length = (0, 0, nI k, t, p, q) := by
    simp [calM, wI_s, wL_s, (wsL _ _ _ _).2.2.2.1, (wsI _ _ _ _).2.2.2.1]
  generalize sL (sL (sI (sI (sL (sI (sI w (m + 3) c (nI ((cl c).2.2.1.length + 1))) (m + 5) (60 * c + (cl c).2.2.1.length) 0) (m + 6) (60 * c + (cl c).2.2.1.length) 0) (m + 7) (60 * c + (cl c).2.2.1.length) (nI k)) (m + 8) (60 * c + (cl c).2.2.1.length) t) (m + 9) (60 * c + (cl c).2.2.1.length) p) (m + 10) (60 * c + (cl c).2.2.1.length) q = w9 at g f3 f1 f5 fN hM7 ⊢
  have hcal : ∀ (i : Nat) (r : Cal), (addC (cl c) (nI k) t p q).2.2.1[i]? = some r → calM w9 m c i = r := by
    intro i r hi
    unfold addC at hi
    simp only at hi
    by_cases e : i = (cl c).2.2.1.length
    · subst e
      rw [fN]
      simp at hi
      exact hi
    · have hil : i < (cl c).2.2.1.length := by
        have := (List.getElem?_eq_some_iff.mp hi).1
        simp at this; omega
      rw [List.getElem?_append_left hil] at hi
      rw [← a5 i r hi]
      have ne : 60 * c + i ≠ 60 * c + (cl c).2.2.1.length := by omega
      unfold calM
      rw [(f5 5 _ (by omega) (by omega) ne).1, (f5 6 _ (by omega) (by omega) ne).2, (f5 7 _ (by omega) (by omega) ne).1, (f5 8 _ (by omega) (by omega) ne).1, (f5 9 _ (by omega) (by omega) ne).2, (f5 10 _ (by omega) (by omega) ne).2]
  obtain ⟨h9, f9⟩ := h.cli hc (d := addC (cl c) (nI k) t p q) g (fun j i b1 b2 b3 => by
    by_cases e : j = 3
    · subst e; rw [f3, if_neg b3]
    · exact f1 j i e (by omega)) (fun i b => f1 4 i (by omega) (by omega)) (fun j i b1 b2 b3 => f5 j i b1 b2 (by omega)) ⟨(f1 1 c (by omega) (by omega)).trans a1, (f1 2 c (by omega) (by omega)).trans a2, by rw [f3, if_pos rfl]; simp [addC], by simp [addC]; omega, hcal, fun b hb => (f1 4 _ (by omega) (by omega)).trans (a6 b hb)⟩
  rw [← e1] at h9
  refine ok_mR hM7 3 (ok_mA (v := nI ((cl c).2.2.1.length + 1)) hM7 rfl hc (by rw [f3, if_pos rfl]) (ok_chk hM7.1 (ok_call (m_request h9 h4 hfl hc hj hk ((addC_i ec).2 hj)) (fun _ w2 u => ?_))))
  have hM8 := u.1.1.1
  refine ok_mR hM8 3 (ok_mA (v := nI ((cl c).2.2.1.length + 1)) hM8 rfl hc ?_ (ok_ret ⟨rfl, u.1, f9.tr u.2⟩))
  rw [(u.1.2.1 c hc).2.2.1, ec]
  simp [addC]
theorem st_call (x y t : Int32) (p q : Int64) : Same2 o S le (f_X5_call o x y t p q) (f_X6_call (aMo o S) x y t p q) := by
  rintro w k hk ⟨sc, cl, mem, kept, up, dy, row, held, hR, hI⟩
  have k0 := hR.1.2.1.1.1
  have m0 := hR.2.1.1.1
  have hM := hR.2.1.1
  have h4 := hR.1.1.2.1
  have out : (x < 0 ∨ nI 6 ≤ x) → ∃ v w1 w2, f_X5_call o x y t p q w = some (v, w1) ∧ wK w1 (aMo o S) = 7 ∧ f_X6_call (aMo o S) x y t p q w1 = some (v, w2) ∧ Rel w2 o S le (k + 1) := by
    intro hx
    refine mkSame (r := -1) hR hI hk (ok_eq ?_) (ok_eq ?_)
    · unfold f_X5_call
      exact ok_chk k0 (ok_use (c_cl_out hR.1 hx) (ok_t rfl (ok_ret ⟨rfl, rfl⟩)))
    · unfold f_X6_call
      refine ok_use m_isClient ?_
      rw [if_neg (out6 hx)]
      exact ok_t rfl (ok_ret ⟨rfl, rfl⟩)
  rcases pk_ix x (n := 6) (by omega) with hx | hx | ⟨c, hc, rfl⟩
  · exact out (Or.inl hx)
  · exact out (Or.inr hx)
  have out2 : (y < 0 ∨ nI 32 ≤ y) → ∃ v w1 w2, f_X5_call o (nI c) y t p q w = some (v, w1) ∧ wK w1 (aMo o S) = 7 ∧ f_X6_call (aMo o S) (nI c) y t p q w1 = some (v, w2) ∧ Rel w2 o S le (k + 1) := by
    intro hy
    refine mkSame (r := -1) hR hI hk (ok_eq ?_) (ok_eq ?_)
    · unfold f_X5_call
      refine ok_chk k0 (ok_use (c_cl_in hR.1 hc) (ok_f (by simp) (ok_if (fun _ => ok_ret ⟨rfl, rfl⟩) (fun c1 => ok_t ?_ (ok_ret ⟨rfl, rfl⟩)))))
      rcases hy with z | z
      · exact absurd z c1
      · exact z
    · unfold f_X6_call
      refine ok_use m_isClient ?_
      rw [if_pos (in6 hc)]
      refine ok_f (by decide) (ok_use m_in ?_)
      have hno : ¬ (0 ≤ y ∧ y ≤ 31) := by
        intro z
        rcases hy with u | u
        · exact absurd u (Int32.not_lt.mpr z.1)
        · exact absurd (Int32.le_trans u z.2) (by decide)
      rw [if_neg hno]
      exact ok_t rfl (ok_ret ⟨rfl, rfl⟩)
  rcases pk_ix y (n := 32) (by omega) with hy | hy | ⟨j, hj, rfl⟩
  · exact out2 (Or.inl hy)
  · exact out2 (Or.inr hy)
  have g1 : ¬ (32 : Int32) ≤ nI j := by rw [show (32 : Int32) = nI 32 from rfl, nI_leI (by omega) (by omega)]; omega
  have hin : 0 ≤ nI j ∧ nI j ≤ 31 := ⟨nI_pos' (by omega), (nI_leI (a := j) (b := 31) (by omega) (by omega)).mpr (by omega)⟩
  by_cases ht : ¬ t < 0 ∧ t ≤ 3
  · have ht' : 0 ≤ t ∧ t ≤ 3 := ⟨Int32.not_lt.mp ht.1, ht.2⟩
    have hcl := hR.1.2.2.2.1 c hc
    have kc := hcl.1.1.1
    obtain ⟨a1, a2, a3, a4, a5, a6⟩ := hR.2.2.1 c hc
    have hcm := hR.2.2.1 c hc
    have hok := hI.2.2.1 c hc
    by_cases hi : (cl c).1 = 0
    · refine mkSame (r := -3) hR hI hk (ok_eq ?_) (ok_eq ?_)
      · unfold f_X5_call
        exact ok_chk k0 (ok_use (c_cl_in hR.1 hc) (ok_f (by simp) (ok_f (nI_pos (by omega)) (ok_f g1 (ok_f ht.1 (ok_t ht.2 (ok_gI kc hcl.2.2.1 (ok_t hi (ok_ret ⟨rfl, rfl⟩)))))))))
      · unfold f_X6_call
        refine ok_use m_isClient ?_
        rw [if_pos (in6 hc)]
        refine ok_f (by decide) (ok_use m_in ?_)
        rw [if_pos hin]
        refine ok_f (by decide) (ok_use m_in ?_)
        rw [if_pos ht']
        exact ok_f (by decide) (ok_mR hM 1 (ok_mA hM rfl hc a1 (ok_t hi (ok_ret ⟨rfl, rfl⟩))))
    · by_cases hfull : (cl c).2.2.1.length < 60 ∧ (cl c).2.2.1.countP isW < 4
      · have ec : (va_up cl c (addC (cl c) (nI j) t p q)) c = addC (cl c) (nI j) t p q := va_up_self _ _ _
        have hjj := (addC_i ec).1
        have hI1 := hI.cli (c := c) (d := addC (cl c) (nI j) t p q) rfl ⟨by
          have : (addC (cl c) (nI j) t p q).2.2.1.countP isW = (cl c).2.2.1.countP isW + 1 := by
            unfold addC; rw [List.countP_append]; rfl
          rw [this]; omega, fun r hr => by
          rcases List.mem_append.mp hr with z | z
          · exact hok.2.1 r z
          · rw [List.mem_singleton.mp z]; exact ⟨j, hj, rfl⟩, fun z => absurd z hi, hok.2.2.2⟩
        refine mkStep hR (c_call hR.1 hc hj ht hi hfull.1 hfull.2 rfl hjj) (fun w1 h1 => m_call h1 h4 (by simp) hc hj ht hi hfull.1 hfull.2 rfl hjj) (hI1.go hk (fun op b0 b1 b2 b3 => ?_))
        rcases b1 c hc with z | z
        · rw [ec] at z; exact absurd z hi
        · refine req_ok hc (by omega) hj ((addC_i ec).2 hjj) z (by rw [ec]; exact hok.2.2.2)
      · refine mkSame (r := -2) hR hI hk (ok_eq ?_) (ok_eq ?_)
        · unfold f_X5_call
          refine ok_chk k0 <| ok_use (c_cl_in hR.1 hc) <| ok_f (by simp) <| ok_f (nI_pos (by omega)) <| ok_f g1 <| ok_f ht.1 <| ok_t ht.2 <| ok_gI kc hcl.2.2.1 <| ok_f hi <| ok_gI kc hcl.2.2.2.2.1 <| ok_if (fun _ => ok_ret ⟨rfl, rfl⟩) (fun c1 => ok_chk kc <| ok_use (cl_wait hcl) <| ok_f (fun c2 => hfull ⟨?_, ?_⟩) <| ok_ret ⟨rfl, rfl⟩)
          · rw [show (60 : Int32) = nI 60 from rfl, nI_leI (by omega) (by omega)] at c1; omega
          · rw [show (4 : Int32) = nI 4 from rfl, nI_ltI (by have := hok.1; omega) (by omega)] at c2; exact c2
        · unfold f_X6_call
          refine ok_use m_isClient ?_
          rw [if_pos (in6 hc)]
          refine ok_f (by decide) (ok_use m_in ?_)
          rw [if_pos hin]
          refine ok_f (by decide) (ok_use m_in ?_)
          rw [if_pos ht']
          refine ok_f (by decide) <| ok_mR hM 1 <| ok_mA hM rfl hc a1 <| ok_f hi <| ok_chk hM.1 <| ok_use (m_wait hM hc hcm) <| ok_if (fun _ => ok_ret ⟨rfl, rfl⟩) (fun c1 => ok_mR hM 3 <| ok_mA hM rfl hc a3 <| ok_t ?_ <| ok_ret ⟨rfl, rfl⟩)
          have := hok.1
          rw [show (4 : Int32) = nI 4 from rfl, nI_eq (by omega) (by omega)] at c1
          rw [show (60 : Int32) = nI 60 from rfl, nI_eq (by omega) (by omega)]
          apply Classical.byContradiction
          intro z
          exact hfull ⟨by omega, by omega⟩
  · refine mkSame (r := -1) hR hI hk (ok_eq ?_) (ok_eq ?_)
    · unfold f_X5_call
      refine ok_chk k0 (ok_use (c_cl_in hR.1 hc) (ok_f (by simp) (ok_f (nI_pos (by omega)) (ok_f g1 (ok_if (fun _ => ok_ret ⟨rfl, rfl⟩) (fun c1 => ok_f (fun c2 => ht ⟨c1, c2⟩) (ok_ret ⟨rfl, rfl⟩)))))))
    · unfold f_X6_call
      refine ok_use m_isClient ?_
      rw [if_pos (in6 hc)]
      refine ok_f (by decide) (ok_use m_in ?_)
      rw [if_pos hin]
      refine ok_f (by decide) (ok_use m_in ?_)
      have hno : ¬ (0 ≤ t ∧ t ≤ 3) := fun z => ht ⟨Int32.not_lt.mpr z.1, z.2⟩
      rw [if_neg hno]
      exact ok_t rfl (ok_ret ⟨rfl, rfl⟩)
end CB
