/-! MOVE -/
section MV
variable {w w' : Wd} {o m S : Nat} {le : Int32} {sc : Nat → Int32} {cl : Nat → ClD} {mem kept : Nat → Nat → BkD} {up cn dy : Nat → Bool} {row : List Ltr} {held : Nat → List Ltr} {fl : List (Nat × Ltr)}
/-- bucket b of data d, from server s to server t -/
def mkMove (t s b : Nat) (d : BkD) : Ltr := ((3, nI t, nI s), (d.2.1 + 1, nI b, nI d.2.2.2.2.1.length), (nI b, 0, 0, 0), d.2.2.2)
theorem c_move89 (h : RC w o S le sc cl mem kept up cn row held) {s b t : Nat} (hs : s < S) (hb : b < 8) (hh : (held s).length < 512) : ok (f_X5_move_89 o (nI s) (nI b) (nI t) (some (aSv o s)) (some (aMb o s b)) w) (fun v w' => v = (mem s b).2.1 + 1 ∧ RC w' o S le (sfL (!cn s) sc row) cl mem kept up cn (sfR (!cn s) row (mkMove t s b (mem s b))) (sfH (!cn s) held s (mkMove t s b (mem s b))) ∧ Cf o S w w') := by
  have hx : wn w ≤ wn w := Nat.le_refl _
  have hT := h.1.2.2.2
  have h4 := h.1.2.1
  unfold f_X5_move_89
  refine ok_new h.1.2.2.1 (fun w1 g1 c1 => ok_ini g1 c1 hx (fun w2 g2 c2 => ok_nI g2 c2 hx (fun w3 g3 c3 => ?_)))
  have b3 := ((h.nw g3).1.2.2.2.2.1 s b hs hb).1
  refine ok_gI b3.1.1.1 b3.2.2.1 <| ok_nI g3 c3 hx (fun w4 g4 c4 => ok_nwO <| ok_call (bk_make g4.2.1) (fun _ w5 z => ?_))
  obtain ⟨z1, z2, z3⟩ := z
  obtain ⟨d1, d2, d3, d4, d5⟩ := c4
  obtain ⟨f1, f2, f3, f4, f5⟩ := z2.2.2 (wn w) d2
  have g5 := g4.tr z2
  have hyT : aMb o s b + 7 < wn w4 := by have := g4.1; unfold aMo at hT; unfold aMb; omega
  refine ok_pR (f1.trans d1) ?_
  have g6 : NewF w (sR w5 (wn w) 14 (some (wn w4))) := g5.sR hx
  have e6 : wR (sR w5 (wn w) 14 (some (wn w4))) (wn w) 14 = some (wn w4) := by rw [wR_s, if_pos ⟨rfl, rfl⟩]
  have e7 : wK (sR w5 (wn w) 14 (some (wn w4))) = wK w5 := rfl
  have e8 : wI (sR w5 (wn w) 14 (some (wn w4))) = wI w5 := rfl
  have e9 : wL (sR w5 (wn w) 14 (some (wn w4))) = wL w5 := rfl
  have e10 : wn (sR w5 (wn w) 14 (some (wn w4))) = wn w5 := rfl
  have hbk : isBk (sR w5 (wn w) 14 (some (wn w4))) (wn w4) := by
    have z4 := z3.1
    unfold isBk at z4 ⊢
    rw [wR_o (by omega)]
    exact z4
  generalize sR w5 (wn w) 14 (some (wn w4)) = w6 at g6 e6 e7 e8 e9 e10 hbk ⊢
  have k6 : wK w6 (wn w) = 3 := by rw [e7]; exact f1.trans d1
  have b6 := ((h.nw g6).1.2.2.2.2.1 s b hs hb).1
  refine ok_gR k6 e6 <| ok_chk hbk.1.1 <| ok_call (bk_copy hbk b6 (Or.inl hyT)) (fun _ w7 y => ?_)
  obtain ⟨y1, y2⟩ := y
  have g7 := g6.bf y1 g4.1
  obtain ⟨h7, f7⟩ := h.nw g7
  have i7 : wI w7 (wn w) = wI w4 (wn w) := by rw [(y1.2.2.2.2 (wn w) (Or.inl d2)).1, e8]; exact f3
  have k7 : wK w7 (wn w) = 3 := by rw [y1.2.1]; exact k6
  have n7 : wn w7 = wn w4 + 8 := by rw [y1.1, e10]; exact z1
  have ht : LTC w7 (wn w) (mkMove t s b (mem s b)) := by
    refine ⟨⟨k7, by rw [i7, d3]; rfl, by rw [i7, d3]; rfl, by rw [i7, d3]; rfl⟩, fun e => absurd (show (3 : Int32) = 1 from e) (by decide), fun e => absurd (show (3 : Int32) = 2 from e) (by decide), fun _ => ⟨by rw [i7, d3]; rfl, by rw [i7, d3]; rfl, by rw [i7, d3]; rfl, wn w4, _, _, _, by rw [y1.2.2.2.1]; exact e6, y2, rfl, d2, by omega⟩, fun e => absurd (show (3 : Int32) = 4 from e) (by decide), fun e => absurd (show (3 : Int32) = 5 from e) (by decide)⟩
  refine ok_chk h7.2.1.1.1 <| ok_call (c_sendFrom h7 hs hh ht hT (by omega)) (fun _ w8 u => ?_)
  have ht8 := ht.cf hT (by omega) u.2
  exact ok_gI ht8.1.1 (ht8.2.2.2.1 rfl).1 <| ok_ret ⟨rfl, u.1, f7.tr u.2⟩
theorem m_move119 (h : RMF w m S le sc cl mem kept up dy row held fl) (h4 : S ≤ 4) (hfl : fl.length ≤ 600) {s b t : Nat} (hs : s < S) (hb : b < 8) (hu : up s = true) (hh : (held s).length < 600) : ok (f_X6_move_119 m (nI s) (nI b) (nI t) (nI (16 * s + b)) w) (fun v w' => v = (mem s b).2.1 + 1 ∧ RMF w' m S le (sfL (dy s) sc row) cl mem kept up dy (sfR (dy s) row (mkMove t s b (mem s b))) (sfH (dy s) held s (mkMove t s b (mem s b))) fl ∧ Mf m w w') := by
  have hM := h.1.1
  have hat : 16 * s + b < 64 := by omega
  have hB := (h.2.2.2.1 s b hs hb).1 hu
  unfold f_X6_move_119
  refine ok_chk hM.1 <| ok_call (m_letter h h4 hfl 3 (nI t) (nI s)) (fun v w1 z => ?_)
  obtain ⟨l, rfl, hl, h0, g, ⟨u1, u2, u3, u4⟩, ⟨v1, v2, v3, v4, v5⟩, v6, v7⟩ := z
  have hM1 := hM.f g.mf
  have hB1 := hB.kp g.1 (fun j a b => by omega)
  refine ok_mR hM1 28 <| ok_mR hM1 12 <| ok_mA hM1 rfl hat hB1.2.1 <| ok_mT hM1 rfl hl (fun hM2 => ok_mR hM2 29 <| ok_mT hM2 rfl hl (fun hM3 => ok_mR hM3 31 <| ok_mT hM3 rfl hl (fun hM4 => ?_)))
  have g4 := ((g.sI (j := 28) (v := (mem s b).2.1 + 1) (by omega) (by omega)).sI (j := 29) (v := nI b) (by omega) (by omega)).sI (j := 31) (v := nI b) (by omega) (by omega)
  have hB4 := hB.kp g4.1 (fun j a b => by omega)
  refine ok_mR hM4 30 <| ok_mR hM4 15 <| ok_mA hM4 rfl hat hB4.2.2.2.1 <| ok_mT hM4 rfl hl (fun hM5 => ?_)
  have g5 := g4.sI (j := 30) (v := nI (mem s b).2.2.2.2.1.length) (by omega) (by omega)
  have F : (wI (sI (sI (sI (sI w1 (m + 28) l ((mem s b).2.1 + 1)) (m + 29) l (nI b)) (m + 31) l (nI b)) (m + 30) l (nI (mem s b).2.2.2.2.1.length)) (m + 24) l = 1 ∧ wI (sI (sI (sI (sI w1 (m + 28) l ((mem s b).2.1 + 1)) (m + 29) l (nI b)) (m + 31) l (nI b)) (m + 30) l (nI (mem s b).2.2.2.2.1.length)) (m + 25) l = 3 ∧ wI (sI (sI (sI (sI w1 (m + 28) l ((mem s b).2.1 + 1)) (m + 29) l (nI b)) (m + 31) l (nI b)) (m + 30) l (nI (mem s b).2.2.2.2.1.length)) (m + 26) l = nI t ∧ wI (sI (sI (sI (sI w1 (m + 28) l ((mem s b).2.1 + 1)) (m + 29) l (nI b)) (m + 31) l (nI b)) (m + 30) l (nI (mem s b).2.2.2.2.1.length)) (m + 27) l = nI s) ∧ (wI (sI (sI (sI (sI w1 (m + 28) l ((mem s b).2.1 + 1)) (m + 29) l (nI b)) (m + 31) l (nI b)) (m + 30) l (nI (mem s b).2.2.2.2.1.length)) (m + 28) l = (mem s b).2.1 + 1 ∧ wI (sI (sI (sI (sI w1 (m + 28) l ((mem s b).2.1 + 1)) (m + 29) l (nI b)) (m + 31) l (nI b)) (m + 30) l (nI (mem s b).2.2.2.2.1.length)) (m + 29) l = nI b ∧ wI (sI (sI (sI (sI w1 (m + 28) l ((mem s b).2.1 + 1)) (m + 29) l (nI b)) (m + 31) l (nI b)) (m + 30) l (nI (mem s b).2.2.2.2.1.length)) (m + 30) l = nI (mem s b).2.2.2.2.1.length ∧ wI (sI (sI (sI (sI w1 (m + 28) l ((mem s b).2.1 + 1)) (m + 29) l (nI b)) (m + 31) l (nI b)) (m + 30) l (nI (mem s b).2.2.2.2.1.length)) (m + 31) l = nI b) := ⟨⟨by simpa [wI_s] using u1, by simpa [wI_s] using u2, by simpa [wI_s] using u3, by simpa [wI_s] using u4⟩, by simp [wI_s]⟩
  generalize sI (sI (sI (sI w1 (m + 28) l ((mem s b).2.1 + 1)) (m + 29) l (nI b)) (m + 31) l (nI b)) (m + 30) l (nI (mem s b).2.2.2.2.1.length) = w5 at hM5 g5 F ⊢
  have hB5 := hB.kp g5.1 (fun j a b => by omega)
  obtain ⟨s1, s2, s3, s4, s5, s6, s7, s8, s9⟩ := id hB5
  refine l_move_177 (x2 := 0) (x3 := 0) hat hl FU 0 w5 (by unfold FU; omega) (by omega) hM5 (fun wa qa xa ia oa na _ => ?_)
  have ga := g5.l35 xa ia oa
  unfold f_X6_move_213
  refine l_move_216 (x2 := 0) (x3 := 0) hat hl (N := (mem s b).2.2.2.2.1.length) s5 FU 0 wa (by unfold FU; omega) (by omega) qa (by rw [ia]; exact s4) (fun wb qb xb ob nb _ => ?_)
  have gb := ga.l36 xb ob
  unfold f_X6_move_338
  refine l_move_341 (x2 := 0) (x3 := 0) hat hl FU 0 wb (by unfold FU; omega) (by omega) qb (fun wc qc xc ic oc nc _ => ?_)
  have gc := gb.l40 xc oc
  have I : ∀ j, j ≤ 34 → wI wc (m + j) = wI w5 (m + j) := fun j a => by rw [xc.I (by omega), xb.I (by omega), ia]
  obtain ⟨hA, fA⟩ := h.alloc (t := mkMove t s b (mem s b)) hl h0 gc (by
    refine ⟨⟨hl, by rw [I 24 (by omega)]; exact F.1.1, by rw [I 25 (by omega)]; exact F.1.2.1, by rw [I 26 (by omega)]; exact F.1.2.2.1, by rw [I 27 (by omega)]; exact F.1.2.2.2, by rw [I 28 (by omega)]; exact F.2.1, by rw [I 29 (by omega)]; exact F.2.2.1⟩, fun e => absurd (show (3 : Int32) = 1 from e) (by decide), fun e => absurd (show (3 : Int32) = 2 from e) (by decide), fun _ => ⟨by rw [I 30 (by omega)]; exact F.2.2.2.1, rfl, s5, by rw [I 31 (by omega)]; exact F.2.2.2.2, fun k hk => ?_, fun p r hp => ?_, fun p hp => ?_, fun p hp => ?_⟩, fun e => absurd (show (3 : Int32) = 4 from e) (by decide)⟩
    · rw [ic, xb.L (by omega), na k hk (by omega)]; exact s6 k hk
    · have hpl : p < (mem s b).2.2.2.2.1.length := (List.getElem?_eq_some_iff.mp hp).1
      rw [← s7 p r hp]
      have e1 : mrecM wc m l p = rec4 wb m 36 l p := by
        unfold mrecM rec4
        rw [xc.I (q := m + 36) (by omega), xc.I (q := m + 37) (by omega), xc.I (q := m + 38) (by omega), ic]
      have e2 : rec4 wa m 16 (16 * s + b) p = recM w5 m (16 * s + b) p := by
        unfold recM rec4
        rw [ia, xa.L (q := m + (16 + 3)) (by omega)]
      rw [e1, nb p hpl (by omega), e2]
    · rw [(nc p hp (by omega)).1, xb.I (by omega), ia]; exact s8 p hp
    · rw [(nc p hp (by omega)).2, xb.I (by omega), ia]; exact s9 p hp)
  unfold f_X6_move_406
  refine ok_chk qc.1 <| ok_call (m_sendFrom hA h4 hs hh) (fun _ wd y => ?_)
  have hMd := y.1.1.1
  exact ok_mR hMd 12 <| ok_mA hMd rfl hat ((y.1.2.2.2.1 s b hs hb).1 hu).2.1 <| ok_ret ⟨rfl, y.1, fA.tr y.2⟩
end MV
