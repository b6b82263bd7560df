/-! DROP, ACK -/
section DR
variable {w w' : Wd} {o m S : Nat} {le : Int32} {sc : Nat → Int32} {cl : Nat → ClD} {mem kept : Nat → Nat → BkD} {up cn dy : Nat → Bool} {row : List Ltr} {held : Nat → List Ltr} {fl : List (Nat × Ltr)}
theorem RMF.e50 (h : RMF w m S le sc cl mem kept up dy row held fl) : wI w m 50 = nI row.length ∧ row.length ≤ 400 := by
  obtain ⟨-, -, -, -, Lr, Lh, ⟨h5, h5'⟩, -⟩ := h
  rw [← h5'.1]; exact ⟨h5.1, h5.2.1⟩
theorem c_drop (h : RC w o S le sc cl mem kept up cn row held) {i : Nat} (hi : i < row.length) : ok (f_X5_drop o (nI i) w) (fun v w' => v = row[i].1.1 ∧ RC w' o S le (va_up sc 1 (sc 1 + 1)) cl mem kept up cn (row.eraseIdx i) held ∧ Cf o S w w') := by
  have k0 := h.2.1.1.1
  have r2 := h.2.1.1.2.2.2
  obtain ⟨La, hr, -⟩ := h.2.2.2.2.2.1
  obtain ⟨x, e1, e2, e3, e4⟩ := c_at h hi
  unfold f_X5_drop
  refine ok_gR k0 r2 (ok_chk hr.1 (ok_use e1 (ok_f (by simp) (ok_gR k0 r2 (ok_chk hr.1 (ok_call (c_rmv h hi) (fun _ w1 z => ?_)))))))
  obtain ⟨h1, f1⟩ := z
  obtain ⟨h2, f2⟩ := h1.num (k := 6) (j := 1) (v := sc 1 + 1) (Or.inr (Or.inr (Or.inl ⟨rfl, rfl⟩)))
  have e5 := e2.cf e3 e4 (f1.tr f2)
  exact ok_gI h1.2.1.1.1 h1.2.1.2.1.2.2.2.1 (ok_pI h1.2.1.1.1 (ok_gI e5.1.1 e5.1.2.1 (ok_ret ⟨rfl, h2, f1.tr f2⟩)))
theorem m_drop (h : RMF w m S le sc cl mem kept up dy row held fl) {i : Nat} (hi : i < row.length) : ok (f_X6_drop m (nI i) w) (fun v w' => v = row[i].1.1 ∧ RMF w' m S le (va_up sc 1 (sc 1 + 1)) cl mem kept up dy (row.eraseIdx i) held fl ∧ Mf m w w') := by
  have hM := h.1.1
  obtain ⟨e50, h400⟩ := h.e50
  unfold f_X6_drop
  refine ok_gI hM.1 e50 (ok_use m_in ?_)
  rw [if_pos ((in_row (by omega) _).mpr ⟨i, hi, rfl⟩)]
  refine ok_f (by decide) (ok_chk hM.1 (ok_call (m_takeOut h hi) (fun v w1 z => ?_)))
  obtain ⟨l, rfl, h1, f1⟩ := z
  obtain ⟨hl, -, ht⟩ := h1.hd_ne
  obtain ⟨h2, f2⟩ := h1.free
  obtain ⟨h3, f3⟩ := h2.num (k := 3) (j := 1) (v := sc 1 + 1) (Or.inr (Or.inl ⟨rfl, rfl⟩))
  have hM1 := h1.1.1
  refine ok_mR hM1 24 (ok_mTZ hM1 rfl hl (Or.inl rfl) (fun hM2 => ok_gI hM2.1 h2.1.2.2.2.2.1 (ok_pI hM2.1 (ok_mR hM2.sI 25 (ok_mA (v := row[i].1.1) hM2.sI rfl hl ?_ (ok_ret ⟨rfl, h3, (f1.tr f2).tr f3⟩))))))
  rw [wI_so (by omega), wI_so (by omega)]
  exact ht.1.2.2.1
theorem st_drop (x : Int32) : Same2 o S le (f_X5_drop o x) (f_X6_drop (aMo o S) x) := by
  rintro w k hk ⟨sc, cl, mem, kept, up, dy, row, held, hR, hI⟩
  obtain ⟨e50, h400⟩ := hR.2.e50
  have hor := in_row (L := row.length) (by omega) x
  by_cases hn : 0 ≤ x ∧ x ≤ nI row.length - 1
  · obtain ⟨i, hi, rfl⟩ := hor.mp hn
    refine mkStep hR (c_drop hR.1 hi) (fun w1 h1 => m_drop h1 hi) ((hI.lts hk (fun op a0 a1 a2 a3 a4 => ⟨fun t z => a3 t (List.mem_of_mem_eraseIdx z), a4⟩) (fun s hs => Nat.le_succ _)).sc' (va_up_ne _ _ (by omega)))
  · obtain ⟨La, hr, -⟩ := hR.1.2.2.2.2.2.1
    refine mkSame (r := -1) hR hI hk (ok_eq ?_) (ok_eq ?_)
    · unfold f_X5_drop
      exact ok_gR hR.1.2.1.1.1 hR.1.2.1.1.2.2.2 (ok_chk hr.1 (ok_use (c_at_out hR.1 (fun z => hn (hor.mpr z))) (ok_t rfl (ok_ret ⟨rfl, rfl⟩))))
    · unfold f_X6_drop
      refine ok_gI hR.2.1.1.1 e50 (ok_use m_in ?_)
      rw [if_neg hn]
      exact ok_t rfl (ok_ret ⟨rfl, rfl⟩)
abbrev noLoad : (Nat → Int64) × List Rec × (Nat → Int32) × (Nat → Int32) := (fun _ => 0, [], fun _ => 0, fun _ => 0)
def mkAck (s c : Nat) (i f : Int32) : Ltr := ((5, nI s, nI c), (i, f, 0), (0, 0, 0, 0), noLoad)
theorem lcell_ack {x s c : Nat} {i f : Int32} {fI : Nat → Int32} {fL : Nat → Int64} (h : Lcell w x fI fL none) (h0 : fI 0 = 5) (h1 : fI 1 = nI s) (h2 : fI 2 = nI c) (h3 : fI 3 = i) (h6 : fI 6 = f) : LTC w x (mkAck s c i f) := by
  obtain ⟨c1, c2, c3, c4, c5⟩ := h
  refine ⟨⟨c1, by rw [c3]; exact h0, by rw [c3]; exact h1, by rw [c3]; exact h2⟩, fun e => absurd (show (5 : Int32) = 1 from e) (by decide), fun e => absurd (show (5 : Int32) = 2 from e) (by decide), fun e => absurd (show (5 : Int32) = 3 from e) (by decide), fun e => absurd (show (5 : Int32) = 4 from e) (by decide), fun _ => ⟨by rw [c3]; exact h3, by rw [c3]; exact h6, c5⟩⟩
theorem c_ack (h : RC w o S le sc cl mem kept up cn row held) {c s : Nat} (hc : c < 6) (hs : s < S) (hi : ¬ (cl c).1 = 0) : ok (f_X5_ack o (nI c) (nI s) w) (fun v w' => v = nI (fst1 (cl c).2.2.1) ∧ RC w' o S le (goL sc row) cl mem kept up cn (goR row (mkAck s c (cl c).1 (nI (fst1 (cl c).2.2.1)))) held ∧ Cf o S w w') := by
  have k0 := h.2.1.1.1
  have hcl := h.2.2.2.1 c hc
  have hx : wn w ≤ wn w := Nat.le_refl _
  have hT := h.1.2.2.2
  unfold f_X5_ack
  refine ok_chk k0 (ok_use (c_cl_in h hc) (ok_f (by simp) (ok_chk k0 (ok_use (c_sv_in h hs) (ok_f (by simp) (ok_gI hcl.1.1.1 hcl.2.2.1 (ok_f hi (ok_new h.1.2.2.1 (fun w1 g1 c1 => ok_ini g1 c1 hx (fun w2 g2 c2 => ?_))))))))))
  have hcl2 := (h.nw g2).1.2.2.2.1 c hc
  refine ok_gI hcl2.1.1.1 hcl2.2.2.1 (ok_nI g2 c2 hx (fun w3 g3 c3 => ?_))
  have hcl3 := (h.nw g3).1.2.2.2.1 c hc
  refine ok_chk hcl3.1.1.1 (ok_use (cl_first hcl3) (ok_nI g3 c3 hx (fun w4 g4 c4 => ?_)))
  obtain ⟨h4, f4⟩ := h.nw g4
  have ht : LTC w4 (wn w) (mkAck s c (cl c).1 (nI (fst1 (cl c).2.2.1))) := lcell_ack c4 rfl rfl rfl rfl rfl
  refine ok_chk h4.2.1.1.1 (ok_call (c_send h4 ht hT c4.2.1) (fun _ w5 z => ?_))
  have ht5 := ht.cf hT c4.2.1 z.2
  exact ok_gI ht5.1.1 (ht5.2.2.2.2.2 rfl).2.1 (ok_ret ⟨rfl, z.1, f4.tr z.2⟩)
theorem m_ack (h : RMF w m S le sc cl mem kept up dy row held fl) (h2 : 2 ≤ S) (h4 : S ≤ 4) (hfl : fl.length ≤ 600) {c s : Nat} (hc : c < 6) (hs : s < S) (hi : ¬ (cl c).1 = 0) : ok (f_X6_ack m (nI c) (nI s) w) (fun v w' => v = nI (fst1 (cl c).2.2.1) ∧ RMF w' m S le (goL sc row) cl mem kept up dy (goR row (mkAck s c (cl c).1 (nI (fst1 (cl c).2.2.1)))) held fl ∧ Mf m w w') := by
  have hM := h.1.1
  have a1 := (h.2.1 c hc).1
  unfold f_X6_ack
  refine ok_use m_isClient ?_
  rw [if_pos (in6 hc)]
  refine ok_f (by decide) (ok_chk hM.1 (ok_use (m_sv_in h h2 h4 hs) (ok_f (by decide) (ok_mR hM 1 (ok_mA hM rfl hc a1 (ok_f hi (ok_chk hM.1 (ok_call (m_letter h h4 hfl 5 (nI s) (nI c)) (fun v w1 z => ?_)))))))))
  obtain ⟨l, rfl, hl, h0, g, ⟨u1, u2, u3, u4⟩, ⟨v1, v2, v3, v4, v5⟩, -⟩ := z
  have hM1 := hM.f g.mf
  refine ok_mR hM1 28 (ok_mR hM1 1 (ok_mA (v := (cl c).1) hM1 rfl hc ?_ (ok_mT hM1 rfl hl (fun hM2 => ok_mR hM2 29 (ok_chk hM2.1 ?_)))))
  · rw [g.1.I (by omega)]; exact a1
  · have g2 := g.sI (j := 28) (v := (cl c).1) (by omega) (by omega)
    have hcm := (h.2.1 c hc).kp g2.1 (fun j a b => by omega)
    refine ok_use (m_first hM2 hc hcm) (ok_mT hM2 rfl hl (fun hM3 => ok_mR hM3 29 (ok_mA (v := nI (fst1 (cl c).2.2.1)) hM3 rfl hl (by simp [wI_s]) (ok_chk hM3.1 ?_))))
    have g3 := g2.sI (j := 29) (v := nI (fst1 (cl c).2.2.1)) (by omega) (by omega)
    obtain ⟨h5, f5⟩ := h.alloc (t := mkAck s c (cl c).1 (nI (fst1 (cl c).2.2.1))) hl h0 g3 ⟨⟨hl, by simpa [wI_s] using u1, by simpa [wI_s, mkAck] using u2, by simpa [wI_s, mkAck] using u3, by simpa [wI_s, mkAck] using u4, by simp [wI_s, mkAck], by simp [wI_s, mkAck]⟩, fun e => absurd (show (5 : Int32) = 1 from e) (by decide), fun e => absurd (show (5 : Int32) = 2 from e) (by decide), fun e => absurd (show (5 : Int32) = 3 from e) (by decide), fun e => absurd (show (5 : Int32) = 4 from e) (by decide)⟩
    exact ok_call (m_go h5) (fun _ w5 z => ok_ret ⟨rfl, z.1, f5.tr z.2⟩)
theorem st_ack (x y : Int32) : Same2 o S le (f_X5_ack o x y) (f_X6_ack (aMo o S) x y) := by
  rintro w k hk ⟨sc, cl, mem, kept, up, dy, row, held, hR, hI⟩
  have k0 := hR.1.2.1.1.1
  have m0 := hR.2.1.1.1
  have hM := hR.2.1.1
  have h2 := hR.1.1.1
  have h4 := hR.1.1.2.1
  have out : (x < 0 ∨ nI 6 ≤ x) → ∃ v w1 w2, f_X5_ack o x y w = some (v, w1) ∧ wK w1 (aMo o S) = 7 ∧ f_X6_ack (aMo o S) x y w1 = some (v, w2) ∧ Rel w2 o S le (k + 1) := by
    intro hx
    refine mkSame (r := -1) hR hI hk (ok_eq ?_) (ok_eq ?_)
    · unfold f_X5_ack
      exact ok_chk k0 (ok_use (c_cl_out hR.1 hx) (ok_t rfl (ok_ret ⟨rfl, rfl⟩)))
    · unfold f_X6_ack
      refine ok_use m_isClient ?_
      rw [if_neg (out6 hx)]
      exact ok_t rfl (ok_ret ⟨rfl, rfl⟩)
  rcases pk_ix x (n := 6) (by omega) with hx | hx | ⟨c, hc, rfl⟩
  · exact out (Or.inl hx)
  · exact out (Or.inr hx)
  · have out2 : (y < 0 ∨ nI S ≤ y) → ∃ v w1 w2, f_X5_ack o (nI c) y w = some (v, w1) ∧ wK w1 (aMo o S) = 7 ∧ f_X6_ack (aMo o S) (nI c) y w1 = some (v, w2) ∧ Rel w2 o S le (k + 1) := by
      intro hy
      refine mkSame (r := -1) hR hI hk (ok_eq ?_) (ok_eq ?_)
      · unfold f_X5_ack
        exact ok_chk k0 (ok_use (c_cl_in hR.1 hc) (ok_f (by simp) (ok_chk k0 (ok_use (c_sv_out hR.1 hy) (ok_t rfl (ok_ret ⟨rfl, rfl⟩))))))
      · unfold f_X6_ack
        refine ok_use m_isClient ?_
        rw [if_pos (in6 hc)]
        exact ok_f (by decide) (ok_chk m0 (ok_use (m_sv_out hR.2 h2 h4 hy) (ok_t rfl (ok_ret ⟨rfl, rfl⟩))))
    rcases pk_ix y (n := S) (by omega) with hy | hy | ⟨s, hs, rfl⟩
    · exact out2 (Or.inl hy)
    · exact out2 (Or.inr hy)
    · have hcl := hR.1.2.2.2.1 c hc
      have a1 := (hR.2.2.1 c hc).1
      by_cases hi : (cl c).1 = 0
      · refine mkSame (r := -3) hR hI hk (ok_eq ?_) (ok_eq ?_)
        · unfold f_X5_ack
          exact ok_chk k0 (ok_use (c_cl_in hR.1 hc) (ok_f (by simp) (ok_chk k0 (ok_use (c_sv_in hR.1 hs) (ok_f (by simp) (ok_gI hcl.1.1.1 hcl.2.2.1 (ok_t hi (ok_ret ⟨rfl, rfl⟩))))))))
        · unfold f_X6_ack
          refine ok_use m_isClient ?_
          rw [if_pos (in6 hc)]
          exact ok_f (by decide) (ok_chk m0 (ok_use (m_sv_in hR.2 h2 h4 hs) (ok_f (by decide) (ok_mR hM 1 (ok_mA hM rfl hc a1 (ok_t hi (ok_ret ⟨rfl, rfl⟩)))))))
      · refine mkStep hR (c_ack hR.1 hc hs hi) (fun w1 h1 => m_ack h1 h2 h4 (by simp) hc hs hi) (hI.go hk (fun op a0 b1 b2 b3 => ?_))
        refine Or.inr (Or.inr (Or.inr (Or.inr ⟨rfl, s, c, hs, hc, rfl, rfl, ?_⟩)))
        rcases b1 c hc with z | z
        · exact absurd z hi
        · exact z
end DR
