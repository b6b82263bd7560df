/-! A NEW REFERENCE -/
section N3
variable {w w' : Wd} {m S : Nat} {le : Int32}
def Ml (n : Nat) : List (Nat × Nat × Nat) := (List.range n).map (fun i => (fdM (i + 1), kdM (i + 1), lnM (i + 1)))
theorem fdM_lt : ∀ a b : Fin 44, a.1 < b.1 → fdM (a.1 + 1) < fdM (b.1 + 1) := by decide +kernel
theorem ok_mkm {α : Type} {P : α → Wd → Prop} {n fld ka bd : Nat} {i : Int32} {w0 : Wd} {f : Wd → Option (α × Wd)} (M : Mks m (m + 1) (Ml n) w0 w) (hn : n < 44) (hko : wK w0 m = 7) (hi : i = nI (lnM (n + 1))) (hb : lnM (n + 1) ≤ bd) (hk : kdM (n + 1) = ka) (hf : fdM (n + 1) = fld) (h : ∀ w', Mks m (m + 1) (Ml (n + 1)) w0 w' → ok (f w') P) : ok (nwA w ka i bd (fun w1 => pR w1 (some m) 7 fld (some (wn w)) f)) P := by
  subst hk hf
  refine ok_mk M (by omega) hko hi hb (by have := lnM_b (n + 1) (by omega); omega) (fun e he => ?_) (fun w2 M2 => h w2 ?_)
  · unfold Ml at he
    obtain ⟨j, hj, rfl⟩ := List.mem_map.mp he
    rw [List.mem_range] at hj
    have := fdM_lt ⟨j, by omega⟩ ⟨n, hn⟩ hj
    show fdM (j + 1) ≠ fdM (n + 1)
    have h2 : fdM (j + 1) < fdM (n + 1) := this
    omega
  · have e : Ml (n + 1) = Ml n ++ [(fdM (n + 1), kdM (n + 1), lnM (n + 1))] := by
      unfold Ml
      rw [List.range_succ, List.map_append]; rfl
    rw [e]; exact M2
/-- all arrays made, all zero -/
def ZM (w : Wd) (m : Nat) : Prop := isM w m ∧ (∀ j, 1 ≤ j → j ≤ 44 → wI w (m + j) = (fun _ => 0) ∧ wL w (m + j) = fun _ => 0) ∧ ∀ k, wI w m k = 0
theorem Mks.zm {w0 : Wd} (M : Mks m (m + 1) (Ml 44) w0 w) (hk : wK w0 m = 7) (h0 : wI w0 m = fun _ => 0) : ZM w m := by
  obtain ⟨a1, a2, a3, a4, a5, a6⟩ := M
  obtain ⟨b1, b2, b3, b4, -⟩ := a4 m (by omega)
  have G : ∀ j, 1 ≤ j → j ≤ 44 → (Ml 44)[j - 1]? = some (fdM j, kdM j, lnM j) := by
    intro j h1 h2
    unfold Ml
    rw [List.getElem?_map, List.getElem?_range (by omega)]
    show some (fdM (j - 1 + 1), kdM (j - 1 + 1), lnM (j - 1 + 1)) = _
    rw [show j - 1 + 1 = j by omega]
  refine ⟨⟨b1.trans hk, fun j h1 h2 => ?_⟩, fun j h1 h2 => ?_, fun k => by rw [b3, h0]⟩
  · obtain ⟨c1, c2, c3, -⟩ := a6 (j - 1) _ (G j h1 h2)
    rw [show m + 1 + (j - 1) = m + j by omega] at c1 c2 c3
    exact ⟨c1, c2, c3⟩
  · obtain ⟨-, -, -, c4, c5⟩ := a6 (j - 1) _ (G j h1 h2)
    rw [show m + 1 + (j - 1) = m + j by omega] at c4 c5
    exact ⟨c4, c5⟩
theorem Mks.nf {o b : Nat} {L : List (Nat × Nat × Nat)} {wb w0 : Wd} (M : Mks o b L w0 w) (hg : NewF wb w0) (ho : wn wb ≤ o) (hb : wn wb ≤ b) : NewF wb w := by
  obtain ⟨a1, a2, a3, a4, a5, a6⟩ := M
  refine ⟨by rw [a2]; omega, a3 hg.2.1, fun q hq => ?_⟩
  have hq' : q < wn wb := hq
  obtain ⟨c1, c2, c3, c4, c5⟩ := a4 q (by omega)
  obtain ⟨d1, d2, d3, d4, d5⟩ := hg.2.2 q hq
  exact ⟨c1.trans d1, c2.trans d2, c3.trans d3, c4.trans d4, (c5 (by omega)).trans d5⟩
theorem m_arrays {x1 x2 : Int32} {P : Unit → Wd → Prop} (hw : Wf w) (h : ∀ w', NewF w w' → wn w' = wn w + 45 → ZM w' (wn w) → ok (if x1 < 2 then (f_X6_init_397 (wn w) x2 (some (wn w)) w') else (if 4 < x1 then (f_X6_init_397 (wn w) x2 (some (wn w)) w') else (f_X6_init_398 (wn w) x2 (some (wn w)) x1 w'))) P) : ok (f_X6_init (wn w) x1 x2 (newC w 7 0)) P := by
  obtain ⟨n1, n2, n3, n4, n5, n6⟩ := wnew w 7 0 (wn w)
  rw [if_pos rfl] at n2 n3 n4 n5 n6
  have hg := NewF.new (w := w) (kd := 7) (n := 0) hw
  generalize newC w 7 0 = w1 at *
  have M0 : Mks (wn w) (wn w + 1) (Ml 0) w1 w1 := Mks.z n1
  unfold f_X6_init
  refine ok_mkm (n := 0) M0 (by omega) n2 rfl (Nat.le_refl _) rfl rfl (fun _ M1 => ?_)
  refine ok_mkm (n := 1) M1 (by omega) n2 rfl (Nat.le_refl _) rfl rfl (fun _ M2 => ?_)
  refine ok_mkm (n := 2) M2 (by omega) n2 rfl (Nat.le_refl _) rfl rfl (fun _ M3 => ?_)
  refine ok_mkm (n := 3) M3 (by omega) n2 rfl (Nat.le_refl _) rfl rfl (fun _ M4 => ?_)
  refine ok_mkm (n := 4) M4 (by omega) n2 rfl (Nat.le_refl _) rfl rfl (fun _ M5 => ?_)
  refine ok_mkm (n := 5) M5 (by omega) n2 rfl (Nat.le_refl _) rfl rfl (fun _ M6 => ?_)
  refine ok_mkm (n := 6) M6 (by omega) n2 rfl (Nat.le_refl _) rfl rfl (fun _ M7 => ?_)
  refine ok_mkm (n := 7) M7 (by omega) n2 rfl (Nat.le_refl _) rfl rfl (fun _ M8 => ?_)
  refine ok_mkm (n := 8) M8 (by omega) n2 rfl (Nat.le_refl _) rfl rfl (fun _ M9 => ?_)
  refine ok_mkm (n := 9) M9 (by omega) n2 rfl (Nat.le_refl _) rfl rfl (fun _ M10 => ?_)
  refine ok_mkm (n := 10) M10 (by omega) n2 rfl (Nat.le_refl _) rfl rfl (fun _ M11 => ?_)
  refine ok_mkm (n := 11) M11 (by omega) n2 rfl (Nat.le_refl _) rfl rfl (fun _ M12 => ?_)
  refine ok_mkm (n := 12) M12 (by omega) n2 rfl (Nat.le_refl _) rfl rfl (fun _ M13 => ?_)
  refine ok_mkm (n := 13) M13 (by omega) n2 rfl (Nat.le_refl _) rfl rfl (fun _ M14 => ?_)
  refine ok_mkm (n := 14) M14 (by omega) n2 rfl (Nat.le_refl _) rfl rfl (fun _ M15 => ?_)
  refine ok_mkm (n := 15) M15 (by omega) n2 rfl (Nat.le_refl _) rfl rfl (fun _ M16 => ?_)
  refine ok_mkm (n := 16) M16 (by omega) n2 rfl (Nat.le_refl _) rfl rfl (fun _ M17 => ?_)
  refine ok_mkm (n := 17) M17 (by omega) n2 rfl (Nat.le_refl _) rfl rfl (fun _ M18 => ?_)
  refine ok_mkm (n := 18) M18 (by omega) n2 rfl (Nat.le_refl _) rfl rfl (fun _ M19 => ?_)
  refine ok_mkm (n := 19) M19 (by omega) n2 rfl (Nat.le_refl _) rfl rfl (fun _ M20 => ?_)
  refine ok_mkm (n := 20) M20 (by omega) n2 rfl (Nat.le_refl _) rfl rfl (fun _ M21 => ?_)
  refine ok_mkm (n := 21) M21 (by omega) n2 rfl (Nat.le_refl _) rfl rfl (fun _ M22 => ?_)
  refine ok_mkm (n := 22) M22 (by omega) n2 rfl (Nat.le_refl _) rfl rfl (fun _ M23 => ?_)
  refine ok_mkm (n := 23) M23 (by omega) n2 rfl (Nat.le_refl _) rfl rfl (fun _ M24 => ?_)
  refine ok_mkm (n := 24) M24 (by omega) n2 rfl (Nat.le_refl _) rfl rfl (fun _ M25 => ?_)
  refine ok_mkm (n := 25) M25 (by omega) n2 rfl (Nat.le_refl _) rfl rfl (fun _ M26 => ?_)
  refine ok_mkm (n := 26) M26 (by omega) n2 rfl (Nat.le_refl _) rfl rfl (fun _ M27 => ?_)
  refine ok_mkm (n := 27) M27 (by omega) n2 rfl (Nat.le_refl _) rfl rfl (fun _ M28 => ?_)
  refine ok_mkm (n := 28) M28 (by omega) n2 rfl (Nat.le_refl _) rfl rfl (fun _ M29 => ?_)
  refine ok_mkm (n := 29) M29 (by omega) n2 rfl (Nat.le_refl _) rfl rfl (fun _ M30 => ?_)
  refine ok_mkm (n := 30) M30 (by omega) n2 rfl (Nat.le_refl _) rfl rfl (fun _ M31 => ?_)
  refine ok_mkm (n := 31) M31 (by omega) n2 rfl (Nat.le_refl _) rfl rfl (fun _ M32 => ?_)
  refine ok_mkm (n := 32) M32 (by omega) n2 rfl (Nat.le_refl _) rfl rfl (fun _ M33 => ?_)
  refine ok_mkm (n := 33) M33 (by omega) n2 rfl (Nat.le_refl _) rfl rfl (fun _ M34 => ?_)
  refine ok_mkm (n := 34) M34 (by omega) n2 rfl (Nat.le_refl _) rfl rfl (fun _ M35 => ?_)
  refine ok_mkm (n := 35) M35 (by omega) n2 rfl (Nat.le_refl _) rfl rfl (fun _ M36 => ?_)
  refine ok_mkm (n := 36) M36 (by omega) n2 rfl (Nat.le_refl _) rfl rfl (fun _ M37 => ?_)
  refine ok_mkm (n := 37) M37 (by omega) n2 rfl (Nat.le_refl _) rfl rfl (fun _ M38 => ?_)
  refine ok_mkm (n := 38) M38 (by omega) n2 rfl (Nat.le_refl _) rfl rfl (fun _ M39 => ?_)
  refine ok_mkm (n := 39) M39 (by omega) n2 rfl (Nat.le_refl _) rfl rfl (fun _ M40 => ?_)
  refine ok_mkm (n := 40) M40 (by omega) n2 rfl (Nat.le_refl _) rfl rfl (fun _ M41 => ?_)
  refine ok_mkm (n := 41) M41 (by omega) n2 rfl (Nat.le_refl _) rfl rfl (fun _ M42 => ?_)
  refine ok_mkm (n := 42) M42 (by omega) n2 rfl (Nat.le_refl _) rfl rfl (fun _ M43 => ?_)
  refine ok_mkm (n := 43) M43 (by omega) n2 rfl (Nat.le_refl _) rfl rfl (fun w2 M44 => ?_)
  exact h w2 (M44.nf hg (Nat.le_refl _) (by omega)) (by rw [M44.2.1]; unfold Ml; rw [List.length_map, List.length_range]) (M44.zm n2 n4)
theorem m_guess {K : Nat → Wd → Option (Unit × Wd)} {P : Unit → Wd → Prop} (hS1 : 1 ≤ S) (hS2 : S ≤ 4) : ∀ (n j : Nat) (w : Wd), 48 < n + j → j ≤ 48 → isM w m → wI w m 0 = nI S → (∀ w', isM w' m → Mx m (fun q => q = m + 4) w w' → wL w' = wL w → (∀ i, j ≤ i → i < 48 → wI w' (m + 4) i = nI (i % 8 % S)) → (∀ i, i < j → wI w' (m + 4) i = wI w (m + 4) i) → ok (K m w') P) → ok (f_X6_init_425 K n m (nI j) w) P := by
  intro n
  induction n with
  | zero => intro j w h1 h2; omega
  | succ n ih =>
    intro j w h1 h2 hM h0 hK
    rw [f_X6_init_425.eq_2]
    refine ok_if (fun c => ?_) (fun c => ?_)
    · rw [show (48 : Int32) = nI 48 from rfl, nI_leI (by omega) (by omega)] at c
      exact hK w hM (Mx.rf (fun q hq => by omega)) rfl (fun i a b => by omega) (fun _ _ => rfl)
    · rw [show (48 : Int32) = nI 48 from rfl, nI_leI (by omega) (by omega)] at c
      rw [mod8 (by omega)]
      refine ok_mR hM 4 <| ok_gI hM.1 h0 <| ok_nz ?_ ?_
      · rw [← nI_0, nI_eq (by omega) (by omega)]; omega
      rw [modS (by omega) hS1 (by omega)]
      refine ok_mT hM rfl (by show j < 48; omega) (fun hM1 => ?_)
      rw [nI_1]
      refine ih (j + 1) _ (by omega) (by omega) hM1 (by rw [wI_so (by omega)]; exact h0) (fun w2 q x e vn vk => ?_)
      refine hK w2 q (((Mx.rf (X := fun q => q = m + 4) (fun q hq => by omega)).sI rfl).tr x) (e.trans wL_sI) (fun i i1 i2 => ?_) (fun i hi => ?_)
      · by_cases ei : i = j
        · rw [vk i (by omega), wI_s, if_pos ⟨rfl, ei⟩, ei]
        · exact vn i (by omega) i2
      · rw [vk i (by omega), wI_s, if_neg (by omega)]
def ov (S x b : Nat) : Int32 := if b % S = x / 2 then 1 else 0
theorem m_inner {x : Nat} {K : Nat → Int32 → Wd → Option (Unit × Wd)} {P : Unit → Wd → Prop} (hS1 : 1 ≤ S) (hS2 : S ≤ 4) (hx : x < 8) : ∀ (n j : Nat) (w : Wd), 8 < n + j → j ≤ 8 → isM w m → wI w m 0 = nI S → (∀ w', isM w' m → Mx m (fun q => m + 11 ≤ q ∧ q ≤ m + 13) w w' → wL w' = wL w → (∀ e i, (e = 11 ∨ e = 12 ∨ e = 13) → (i < 8 * x + j ∨ 8 * x + 8 ≤ i) → wI w' (m + e) i = wI w (m + e) i) → (∀ b, j ≤ b → b < 8 → wI w' (m + 11) (8 * x + b) = ov S x b ∧ wI w' (m + 12) (8 * x + b) = ov S x b ∧ wI w' (m + 13) (8 * x + b) = nI (b % S)) → ok (K m (nI x) w') P) → ok (f_X6_init_467 K n m (nI x) (nI j) w) P := by
  intro n
  induction n with
  | zero => intro j w h1 h2; omega
  | succ n ih =>
    intro j w h1 h2 hM h0 hK
    rw [f_X6_init_467.eq_2]
    refine ok_if (fun c => ?_) (fun c => ?_)
    · rw [show (8 : Int32) = nI 8 from rfl, nI_leI (by omega) (by omega)] at c
      exact hK w hM (Mx.rf (fun q hq => by omega)) rfl (fun _ _ _ _ => rfl) (fun b a b => by omega)
    · rw [show (8 : Int32) = nI 8 from rfl, nI_leI (by omega) (by omega)] at c
      have hjs : j % S < 4 := Nat.lt_of_lt_of_le (Nat.mod_lt _ (by omega)) hS2
      have hb : 8 * x + j < 64 := by omega
      have main : ok (f_X6_init_515 (f_X6_init_467 K n) m (nI x) (nI j) (ov S x j) (some (m + 11)) (nI (8 * x + j)) (ov S x j) w) P := by
        unfold f_X6_init_515
        refine ok_mT hM rfl hb (fun hM1 => ok_mR hM1 12 ?_)
        have tl : ok (f_X6_init_537 (f_X6_init_467 K n) m (nI x) (nI j) (some (m + 12)) (nI (8 * x + j)) (ov S x j) (sI w (m + 11) (8 * x + j) (ov S x j))) P := by
          unfold f_X6_init_537
          refine ok_mT hM1 rfl hb (fun hM2 => ok_mR hM2 13 <| ok_gI hM2.1 (v := nI S) (by rw [wI_so (by omega), wI_so (by omega)]; exact h0) <| ok_nz ?_ ?_)
          · rw [← nI_0, nI_eq (by omega) (by omega)]; omega
          rw [modS (by omega) hS1 (by omega)]
          refine ok_mT hM2 (i8' x j) hb (fun hM3 => ?_)
          rw [nI_1]
          have x3 : Mx m (fun q => m + 11 ≤ q ∧ q ≤ m + 13) w (sI (sI (sI w (m + 11) (8 * x + j) (ov S x j)) (m + 12) (8 * x + j) (ov S x j)) (m + 13) (8 * x + j) (nI (j % S))) := (((Mx.rf (fun q hq => by omega)).sI (by omega)).sI (by omega)).sI (by omega)
          have l3 : wL (sI (sI (sI w (m + 11) (8 * x + j) (ov S x j)) (m + 12) (8 * x + j) (ov S x j)) (m + 13) (8 * x + j) (nI (j % S))) = wL w := by rw [wL_sI, wL_sI, wL_sI]
          have e3 : ∀ e i, i ≠ 8 * x + j → wI (sI (sI (sI w (m + 11) (8 * x + j) (ov S x j)) (m + 12) (8 * x + j) (ov S x j)) (m + 13) (8 * x + j) (nI (j % S))) (m + e) i = wI w (m + e) i := fun e i hi => by rw [wI_s, if_neg (fun z => hi z.2), wI_s, if_neg (fun z => hi z.2), wI_s, if_neg (fun z => hi z.2)]
          have v3 : wI (sI (sI (sI w (m + 11) (8 * x + j) (ov S x j)) (m + 12) (8 * x + j) (ov S x j)) (m + 13) (8 * x + j) (nI (j % S))) (m + 11) (8 * x + j) = ov S x j ∧ wI (sI (sI (sI w (m + 11) (8 * x + j) (ov S x j)) (m + 12) (8 * x + j) (ov S x j)) (m + 13) (8 * x + j) (nI (j % S))) (m + 12) (8 * x + j) = ov S x j ∧ wI (sI (sI (sI w (m + 11) (8 * x + j) (ov S x j)) (m + 12) (8 * x + j) (ov S x j)) (m + 13) (8 * x + j) (nI (j % S))) (m + 13) (8 * x + j) = nI (j % S) := by simp [wI_s]
          generalize sI (sI (sI w (m + 11) (8 * x + j) (ov S x j)) (m + 12) (8 * x + j) (ov S x j)) (m + 13) (8 * x + j) (nI (j % S)) = w3 at hM3 x3 l3 e3 v3 ⊢
          refine ih (j + 1) w3 (by omega) (by omega) hM3 (by rw [x3.I (by omega)]; exact h0) (fun w4 q4 x4 l4 o4 n4 => ?_)
          refine hK w4 q4 (x3.tr x4) (l4.trans l3) (fun e i he hi => ?_) (fun b b1 b2 => ?_)
          · rw [o4 e i he (by omega), e3 e i (by omega)]
          · by_cases eb : b = j
            · subst eb
              rw [o4 11 _ (by omega) (by omega), o4 12 _ (by omega) (by omega), o4 13 _ (by omega) (by omega)]
              exact v3
            · exact n4 b (by omega) b2
        rw [i8']
        refine ok_if (fun c2 => ?_) (fun c2 => ?_)
        · rw [c2] at tl ⊢; exact tl
        · have e1 : ov S x j = 1 := by
            unfold ov at c2 ⊢
            by_cases e : j % S = x / 2
            · rw [if_pos e]
            · rw [if_neg e] at c2; exact absurd rfl c2
          rw [e1] at tl ⊢; exact tl
      refine ok_gI hM.1 h0 <| ok_nz ?_ ?_
      · rw [← nI_0, nI_eq (by omega) (by omega)]; omega
      rw [modS (by omega) hS1 (by omega), show (2 : Int32) = nI 2 from rfl, pk_div (by omega) (d := 2) (by omega) (by omega)]
      refine ok_if (fun c2 => ?_) (fun c2 => ?_)
      · rw [nI_eq (by omega) (by omega)] at c2
        have e1 : ov S x j = 1 := by unfold ov; rw [if_pos c2]
        unfold f_X6_init_492
        rw [i8']
        refine ok_mR hM 11 <| ok_f (by decide) ?_
        rw [e1] at main; exact main
      · rw [nI_eq (by omega) (by omega)] at c2
        have e1 : ov S x j = 0 := by unfold ov; rw [if_neg c2]
        unfold f_X6_init_492
        rw [i8']
        refine ok_mR hM 11 <| ok_t rfl ?_
        rw [e1] at main; exact main
theorem m_outer (hS1 : 1 ≤ S) (hS2 : S ≤ 4) : ∀ (n x : Nat) (w : Wd), 2 * S < n + x → x ≤ 2 * S → isM w m → wI w m 0 = nI S → ok (f_X6_init_454 n m (nI x) w) (fun _ w' => isM w' m ∧ Mx m (fun q => (m + 11 ≤ q ∧ q ≤ m + 13) ∨ q = m + 22) w w' ∧ wL w' = wL w ∧ (∀ e i, (e = 11 ∨ e = 12 ∨ e = 13) → i < 8 * x → wI w' (m + e) i = wI w (m + e) i) ∧ (∀ y b, x ≤ y → y < 2 * S → b < 8 → wI w' (m + 11) (8 * y + b) = ov S y b ∧ wI w' (m + 12) (8 * y + b) = ov S y b ∧ wI w' (m + 13) (8 * y + b) = nI (b % S)) ∧ (∀ s, s < S → x ≤ 2 * s + 1 → wI w' (m + 22) s = 1) ∧ (∀ s, 2 * s + 1 < x → wI w' (m + 22) s = wI w (m + 22) s)) := by
  intro n
  induction n with
  | zero => intro x w h1 h2; omega
  | succ n ih =>
    intro x w h1 h2 hM h0
    rw [f_X6_init_454.eq_2]
    refine ok_gI hM.1 h0 ?_
    rw [i2]
    refine ok_if (fun c => ?_) (fun c => ?_)
    · rw [nI_leI (by omega) (by omega)] at c
      exact ok_ret ⟨hM, Mx.rf (fun q hq => by omega), rfl, fun _ _ _ _ => rfl, fun y b a b => by omega, fun s a b => by omega, fun _ _ => rfl⟩
    · rw [nI_leI (by omega) (by omega)] at c
      refine m_inner hS1 hS2 (by omega) FU 0 w (by unfold FU; omega) (by omega) hM h0 (fun w1 q1 x1 l1 o1 n1 => ?_)
      unfold f_X6_init_563
      rw [show (2 : Int32) = nI 2 from rfl, pk_div (by omega) (d := 2) (by omega) (by omega)]
      refine ok_mR q1 22 <| ok_mTZ q1 rfl (by show x / 2 < 4; omega) (Or.inr rfl) (fun hM2 => ?_)
      rw [nI_1]
      have x2 : Mx m (fun q => q = m + 22) w1 (sI w1 (m + 22) (x / 2) 1) := (Mx.rf (fun q hq => by omega)).sI rfl
      have e2 : ∀ s, wI (sI w1 (m + 22) (x / 2) 1) (m + 22) s = if s = x / 2 then 1 else wI w1 (m + 22) s := fun s => by rw [wI_s]; simp
      have l2 : wL (sI w1 (m + 22) (x / 2) 1) = wL w1 := rfl
      generalize sI w1 (m + 22) (x / 2) 1 = w2 at hM2 x2 e2 l2 ⊢
      refine ok_mono (ih (x + 1) w2 (by omega) (by omega) hM2 (by rw [x2.I (by omega), x1.I (by omega)]; exact h0)) (fun _ w3 z => ?_)
      obtain ⟨z1, z2, z3, z4, z5, z6, z7⟩ := z
      refine ⟨z1, ((x1.mono (fun q hq => Or.inl hq) (fun q hq => by omega)).tr (x2.mono (fun q hq => Or.inr hq) (fun q hq => by omega))).tr z2, by rw [z3, l2, l1], fun e i he hi => ?_, fun y b y1 y2 hb => ?_, fun s hs hx => ?_, fun s hs => ?_⟩
      · rw [z4 e i he (by omega), x2.I (by omega), o1 e i he (by omega)]
      · by_cases ey : y = x
        · subst ey
          rw [z4 11 _ (by omega) (by omega), z4 12 _ (by omega) (by omega), z4 13 _ (by omega) (by omega), x2.I (by omega), x2.I (by omega), x2.I (by omega)]
          exact n1 b (by omega) hb
        · exact z5 y b (by omega) y2 hb
      · by_cases es : x + 1 ≤ 2 * s + 1
        · exact z6 s hs es
        · rw [z7 s (by omega), e2, if_pos (by omega)]
      · rw [z7 s (by omega), e2, if_neg (by omega), x1.I (by omega)]
end N3
