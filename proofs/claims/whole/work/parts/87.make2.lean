/-! A NEW OBJECT: clients, the whole -/
section N2
variable {w w' : Wd} {a o c s S j : Nat} {le : Int32}
theorem cl_loop (hS1 : 1 ≤ S) (hS2 : S ≤ 4) : ∀ (n j : Nat) (w : Wd) (gu : Nat → Int32), 8 < n + j → j ≤ 8 → CLI w a c 0 0 [] gu → (∀ b, b < j → gu b = nI (b % S)) → ok (f_X1_init_74 n a (nI S) (nI j) w) (fun _ w' => Bf a w w' ∧ CLI w' a c 0 0 [] (fun b => nI (b % S))) := by
  intro n
  induction n with
  | zero => intro j w gu h1 h2; omega
  | succ n ih =>
    intro j w gu h1 h2 h hg
    rw [f_X1_init_74.eq_2]
    refine ok_if (fun c1 => ?_) (fun c1 => ?_)
    · rw [show (8 : Int32) = nI 8 from rfl, nI_leI (by omega) (by omega)] at c1
      obtain ⟨b1, b2, b3, b4, b5, b6, b7, b8⟩ := h
      exact ok_ret ⟨Bf.rf, b1, b2, b3, b4, b5, b6, b7, fun b hb => (b8 b hb).trans (hg b (by omega))⟩
    · rw [show (8 : Int32) = nI 8 from rfl, nI_leI (by omega) (by omega)] at c1
      rw [modS (by omega) hS1 (by omega)]
      refine ok_gR h.1.1.1 h.1.1.2.1 <| ok_nz ?_ <| ok_tI rfl h.1.2.1.1 (by rw [h.1.2.1.2]; omega) (by omega) ?_
      · rw [← nI_0, nI_eq (by omega) (by omega)]; omega
      obtain ⟨z1, z2⟩ := CLI.guess (b := j) h (nI (j % S))
      rw [nI_1]
      refine ok_mono (ih (j + 1) _ _ (by omega) (by omega) z1 (fun b hb => ?_)) (fun _ w' y => ⟨z2.tr y.1, y.2⟩)
      by_cases e : b = j
      · rw [e, va_up_self]
      · rw [va_up_ne _ _ e]; exact hg b (by omega)
theorem mx1 (hS1 : 1 ≤ S) (hS2 : S ≤ 4) : mx 1 (nI S) = nI S := by
  unfold mx
  by_cases e : (1 : Int32) < nI S
  · rw [if_pos e]
  · rw [if_neg e]
    rw [show (1 : Int32) = nI 1 from rfl, nI_ltI (by omega) (by omega)] at e
    rw [show (1 : Int32) = nI 1 from rfl]
    congr 1
    omega
theorem cl_make (hw : Wf w) (hS1 : 1 ≤ S) (hS2 : S ≤ 4) : ok (f_X1_init (wn w) (nI c) (nI S) (newC w 2 0)) (fun _ w' => wn w' = wn w + 8 ∧ NewF w w' ∧ CLI w' (wn w) c 0 0 [] (fun b => nI (b % S))) := by
  obtain ⟨n1, n2, n3, n4, n5, n6⟩ := wnew w 2 0 (wn w)
  rw [if_pos rfl] at n2 n3 n4 n5 n6
  have hg := NewF.new (w := w) (kd := 2) (n := 0) hw
  generalize newC w 2 0 = w1 at *
  have M0 : Mks (wn w) (wn w + 1) [] w1 w1 := Mks.z n1
  have ho : wn w < wn w + 1 := by omega
  unfold f_X1_init
  refine ok_mk M0 ho n2 (N := 8) rfl (by omega) (by omega) (by decide) (fun _ M1 => ?_)
  refine ok_mk M1 ho n2 (N := 61) rfl (by omega) (by omega) (by decide) (fun _ M2 => ?_)
  refine ok_mk M2 ho n2 (N := 61) rfl (by omega) (by omega) (by decide) (fun _ M3 => ?_)
  refine ok_mk M3 ho n2 (N := 61) rfl (by omega) (by omega) (by decide) (fun _ M4 => ?_)
  refine ok_mk M4 ho n2 (N := 61) rfl (by omega) (by omega) (by decide) (fun _ M5 => ?_)
  refine ok_mk M5 ho n2 (N := 61) rfl (by omega) (by omega) (by decide) (fun _ M6 => ?_)
  refine ok_mk M6 ho n2 (N := 61) rfl (by omega) (by omega) (by decide) (fun w2 M7 => ?_)
  obtain ⟨a1, a2, a3, a4, a5, a6⟩ := M7
  obtain ⟨b1, b2, b3, b4, -⟩ := a4 (wn w) (by omega)
  obtain ⟨r0, k0, l0, i0, j0⟩ := a6 0 _ rfl
  obtain ⟨r1, k1, l1, i1, j1⟩ := a6 1 _ rfl
  obtain ⟨r2, k2, l2, i2, j2⟩ := a6 2 _ rfl
  obtain ⟨r3, k3, l3, i3, j3⟩ := a6 3 _ rfl
  obtain ⟨r4, k4, l4, i4, j4⟩ := a6 4 _ rfl
  obtain ⟨r5, k5, l5, i5, j5⟩ := a6 5 _ rfl
  obtain ⟨r6, k6, l6, i6, j6⟩ := a6 6 _ rfl
  have kc := b1.trans n2
  have hC : isCl w2 (wn w) := ⟨⟨kc, r0, r1, r2, r3, r4, r5, r6⟩, ⟨k0, l0⟩, ⟨k1, l1⟩, ⟨k2, l2⟩, ⟨k3, l3⟩, ⟨k4, l4⟩, ⟨k5, l5⟩, ⟨k6, l6⟩⟩
  have g2 : NewF w w2 := ⟨by rw [a2]; omega, a3 hg.2.1, fun q hq => by
    have hq' : q < wn w := hq
    obtain ⟨c1, c2, c3, c4, c5⟩ := a4 q (by omega)
    obtain ⟨d1, d2, d3, d4, d5⟩ := hg.2.2 q hq
    exact ⟨c1.trans d1, c2.trans d2, c3.trans d3, c4.trans d4, (c5 (by omega)).trans d5⟩⟩
  refine ok_pI kc ?_
  have hf : Bf (wn w) w2 (sI w2 (wn w) 0 (nI c)) := Bf.sI (Nat.le_refl _) (by omega)
  have hcl : CLI (sI w2 (wn w) 0 (nI c)) (wn w) c 0 0 [] (fun _ => 0) := by
    refine ⟨hC.f hf, by simp [wI_s], by rw [wI_s, if_neg (by omega), b3, n4], by rw [wI_s, if_neg (by omega), b3, n4], by rw [wI_s, if_neg (by omega), b3, n4]; exact nI_0.symm, by simp, fun i r h => by simp at h, fun b hb => ?_⟩
    rw [wI_so (by omega), show wn w + 1 = wn w + 1 + 0 from rfl, i0]
  rw [mx1 hS1 hS2]
  refine ok_mono (cl_loop (c := c) hS1 hS2 FU 0 _ (fun _ => 0) (by unfold FU; omega) (by omega) hcl (fun b hb => by omega)) (fun _ w' z => ⟨?_, (g2.bf hf (Nat.le_refl _)).bf z.1 (Nat.le_refl _), z.2⟩)
  rw [z.1.1]
  show wn w2 = _
  rw [a2]; rfl
def OBj (w : Wd) (o : Nat) (le : Int32) : Prop := wK w o = 6 ∧ wR w o 0 = some (o + 1) ∧ wI w o 3 = le ∧ ∀ k, k ≠ 3 → wI w o k = 0
def CVj (w : Wd) (o S j : Nat) : Prop := wK w (o + 1) = 106 ∧ wN w (o + 1) = S ∧ ∀ s, s < j → wR w (o + 1) s = some (aSv o s) ∧ SVj w (aSv o s) s S 8
def DVj (w : Wd) (o S j : Nat) : Prop := wK w (aCa o S) = 104 ∧ wN w (aCa o S) = 6 ∧ ∀ c, c < j → wR w (aCa o S) c = some (aCl o S c) ∧ CLI w (aCl o S c) c 0 0 [] (fun b => nI (b % S))
theorem OBj.ag (h : OBj w o le) (g : Ag (fun q => q = o) w w') : OBj w' o le := by
  have g0 := g o rfl
  unfold OBj at h ⊢
  rw [g0.1, g0.2.2.1, g0.2.2.2.2]; exact h
theorem CVj.ag (h : CVj w o S j) (g : Ag (fun q => o + 1 ≤ q ∧ q < o + 2 + 133 * j) w w') : CVj w' o S j := by
  obtain ⟨h1, h2, h3⟩ := h
  have g0 := g (o + 1) ⟨by omega, by omega⟩
  refine ⟨by rw [g0.1]; exact h1, by rw [g0.2.1]; exact h2, fun s hs => ⟨by rw [g0.2.2.2.2]; exact (h3 s hs).1, (h3 s hs).2.ag (g.mono (fun q hq => by unfold aSv at hq; omega))⟩⟩
theorem DVj.ag (h : DVj w o S j) (g : Ag (fun q => aCa o S ≤ q ∧ q < aCl o S j) w w') : DVj w' o S j := by
  obtain ⟨h1, h2, h3⟩ := h
  have g0 := g (aCa o S) ⟨Nat.le_refl _, by unfold aCa aCl; omega⟩
  refine ⟨by rw [g0.1]; exact h1, by rw [g0.2.1]; exact h2, fun c hc => ⟨by rw [g0.2.2.2.2]; exact (h3 c hc).1, (h3 c hc).2.ag (g.mono (fun q hq => by unfold aCl at hq; unfold aCa aCl; omega))⟩⟩
theorem o_servers {wb : Wd} {K : Nat → Int32 → Wd → Option (Unit × Wd)} {P : Unit → Wd → Prop} (hwb : wn wb = o) (hS1 : 1 ≤ S) (hS2 : S ≤ 4) : ∀ (n j : Nat) (w : Wd), S < n + j → j ≤ S → NewF wb w → wn w = o + 2 + 133 * j → OBj w o le → CVj w o S j → (∀ w2, NewF wb w2 → wn w2 = o + 2 + 133 * S → OBj w2 o le → CVj w2 o S S → ok (K o (nI S) w2) P) → ok (f_X5_init_53 K n o (nI S) (nI j) w) P := by
  intro n
  induction n with
  | zero => intro j w h1 h2; omega
  | succ n ih =>
    intro j w h1 h2 hw hn hO hC hK
    rw [f_X5_init_53.eq_2]
    refine ok_if (fun c => ?_) (fun c => ?_)
    · rw [nI_leI (by omega) (by omega)] at c
      have hj : j = S := by omega
      subst hj
      exact hK w hw hn hO hC
    · rw [nI_leI (by omega) (by omega)] at c
      refine ok_gR hO.1 hO.2.1 <| ok_nwO <| ok_call (sv_make (s := j) (S := S) hw.2.1 (by omega) hS1 hS2) (fun _ w1 z => ?_)
      obtain ⟨z1, z2, z3⟩ := z
      have z2' : Ag (fun q => q < o + 2 + 133 * j) w w1 := by
        have := z2.2.2
        rw [hn] at this
        exact this
      rw [hn] at z1 z3 ⊢
      have hO1 := hO.ag (z2'.mono (fun q hq => by omega))
      have hC1 := hC.ag (z2'.mono (fun q hq => by omega))
      have hg1 := hw.tr z2
      refine ok_tR rfl hC1.1 (by rw [hC1.2.1]; omega) (by omega) (Or.inr ⟨_, rfl, z3.1.1⟩) ?_
      rw [nI_1]
      have e2 : wR (sR w1 (o + 1) j (some (o + 2 + 133 * j))) (o + 1) j = some (aSv o j) := by rw [wR_s, if_pos ⟨rfl, rfl⟩]; rfl
      have g2 : Ag (fun q => q ≠ o + 1) w1 (sR w1 (o + 1) j (some (o + 2 + 133 * j))) := agR
      refine ih (j + 1) _ (by omega) (by omega) (hg1.sR (by omega)) (by show wn w1 = _; rw [z1]; omega) (hO1.ag (g2.mono (fun q hq => by omega))) ⟨hC1.1, hC1.2.1, fun s hs => ?_⟩ hK
      by_cases e : s = j
      · subst e
        exact ⟨e2, z3.ag (g2.mono (fun q hq => by omega))⟩
      · have hs' : s < j := by omega
        refine ⟨by rw [wR_s, if_neg (fun z => e z.2)]; exact (hC1.2.2 s hs').1, (hC1.2.2 s hs').2.ag (g2.mono (fun q hq => by unfold aSv at hq; omega))⟩
theorem o_clients {wb : Wd} {K : Nat → Wd → Option (Unit × Wd)} {P : Unit → Wd → Prop} (hwb : wn wb = o) (hS1 : 1 ≤ S) (hS2 : S ≤ 4) : ∀ (n j : Nat) (w : Wd), 6 < n + j → j ≤ 6 → NewF wb w → wn w = aCl o S j → OBj w o le → wR w o 1 = some (aCa o S) → CVj w o S S → DVj w o S j → (∀ w2, NewF wb w2 → wn w2 = aCl o S 6 → OBj w2 o le → wR w2 o 1 = some (aCa o S) → CVj w2 o S S → DVj w2 o S 6 → ok (K o w2) P) → ok (f_X5_init_94 K n o (nI S) (nI j) w) P := by
  intro n
  induction n with
  | zero => intro j w h1 h2; omega
  | succ n ih =>
    intro j w h1 h2 hw hn hO hR hC hD hK
    rw [f_X5_init_94.eq_2]
    refine ok_if (fun c => ?_) (fun c => ?_)
    · rw [show (6 : Int32) = nI 6 from rfl, nI_leI (by omega) (by omega)] at c
      have hj : j = 6 := by omega
      subst hj
      exact hK w hw hn hO hR hC hD
    · rw [show (6 : Int32) = nI 6 from rfl, nI_leI (by omega) (by omega)] at c
      refine ok_gR hO.1 hR <| ok_nwO <| ok_call (cl_make (c := j) (S := S) hw.2.1 hS1 hS2) (fun _ w1 z => ?_)
      obtain ⟨z1, z2, z3⟩ := z
      have z2' : Ag (fun q => q < aCl o S j) w w1 := by
        have := z2.2.2
        rw [hn] at this
        exact this
      rw [hn] at z1 z3 ⊢
      have hO1 := hO.ag (z2'.mono (fun q hq => by unfold aCl; omega))
      have hC1 := hC.ag (z2'.mono (fun q hq => by unfold aCl; omega))
      have hD1 := hD.ag (z2'.mono (fun q hq => hq.2))
      have hR1 : wR w1 o 1 = some (aCa o S) := by rw [(z2' o (by show o < aCl o S j; unfold aCl; omega)).2.2.2.2]; exact hR
      have hg1 := hw.tr z2
      refine ok_tR rfl hD1.1 (by rw [hD1.2.1]; omega) (by omega) (Or.inr ⟨_, rfl, z3.1.1.1⟩) ?_
      rw [nI_1]
      have e2 : wR (sR w1 (aCa o S) j (some (aCl o S j))) (aCa o S) j = some (aCl o S j) := by rw [wR_s, if_pos ⟨rfl, rfl⟩]
      have g2 : Ag (fun q => q ≠ aCa o S) w1 (sR w1 (aCa o S) j (some (aCl o S j))) := agR
      refine ih (j + 1) _ (by omega) (by omega) (hg1.sR (by unfold aCa; omega)) (by show wn w1 = _; rw [z1]; unfold aCl; omega) (hO1.ag (g2.mono (fun q hq => by unfold aCa; omega))) (by rw [(g2 o (by unfold aCa; omega)).2.2.2.2]; exact hR1) (hC1.ag (g2.mono (fun q hq => by unfold aCa; omega))) ⟨hD1.1, hD1.2.1, fun s hs => ?_⟩ hK
      by_cases e : s = j
      · subst e
        exact ⟨e2, z3.ag (g2.mono (fun q hq => by unfold aCl at hq; unfold aCa; omega))⟩
      · have hs' : s < j := by omega
        refine ⟨by rw [wR_s, if_neg (fun z => e z.2)]; exact (hD1.2.2 s hs').1, (hD1.2.2 s hs').2.ag (g2.mono (fun q hq => by unfold aCl at hq; unfold aCa; omega))⟩
/-- the object, all of it -/
def OB (w : Wd) (o S : Nat) (le : Int32) : Prop := OBj w o le ∧ wR w o 1 = some (aCa o S) ∧ wR w o 2 = some (aRw o S) ∧ CVj w o S S ∧ DVj w o S 6 ∧ isRow w (aRw o S) 400 []
theorem OB.ag (h : OB w o S le) (g : Ag (fun q => q < aMo o S) w w') : OB w' o S le := by
  obtain ⟨h1, h2, h3, h4, h5, h6⟩ := h
  have g0 := g o (by unfold aMo; omega)
  exact ⟨h1.ag (g.mono (fun q hq => by unfold aMo; omega)), by rw [g0.2.2.2.2]; exact h2, by rw [g0.2.2.2.2]; exact h3, h4.ag (g.mono (fun q hq => by unfold aMo; omega)), h5.ag (g.mono (fun q hq => by unfold aCl at hq; unfold aMo; omega)), h6.ag (g.mono (fun q hq => by unfold aRw at hq; unfold aMo; omega)) (fun x hx => by simp at hx)⟩
theorem o_make (hw : Wf w) (hS1 : 1 ≤ S) (hS2 : S ≤ 4) : ok (f_X5_init_39 (wn w) (nI S) (some (wn w)) le (newC w 6 0)) (fun _ w' => wn w' = aMo (wn w) S ∧ NewF w w' ∧ OB w' (wn w) S le) := by
  obtain ⟨n1, n2, n3, n4, n5, n6⟩ := wnew w 6 0 (wn w)
  rw [if_pos rfl] at n2 n3 n4 n5 n6
  have hg := NewF.new (w := w) (kd := 6) (n := 0) hw
  generalize newC w 6 0 = w1 at *
  unfold f_X5_init_39
  refine ok_pI n2 ?_
  have hg2 := hg.sI (a := wn w) (k := 3) (v := le) (Nat.le_refl _)
  have k2 : wK (sI w1 (wn w) 3 le) (wn w) = 6 := n2
  have m2 : wn (sI w1 (wn w) 3 le) = wn w + 1 := n1
  have i2 : wI (sI w1 (wn w) 3 le) (wn w) 3 = le ∧ ∀ k, k ≠ 3 → wI (sI w1 (wn w) 3 le) (wn w) k = 0 := ⟨by rw [wI_s, if_pos ⟨rfl, rfl⟩], fun k hk => by rw [wI_s, if_neg (fun z => hk z.2), n4]⟩
  generalize sI w1 (wn w) 3 le = w2 at hg2 k2 m2 i2 ⊢
  have M0 : Mks (wn w) (wn w + 1) [] w2 w2 := Mks.z m2
  refine ok_mk M0 (by omega) k2 (N := S) rfl hS2 (by omega) (by decide) (fun w3 M1 => ?_)
  obtain ⟨a1, a2, a3, a4, a5, a6⟩ := M1
  obtain ⟨b1, b2, b3, b4, -⟩ := a4 (wn w) (by omega)
  obtain ⟨r0, k0, l0, i0, j0⟩ := a6 0 _ rfl
  have g3 : NewF w w3 := ⟨by rw [a2]; omega, a3 hg2.2.1, fun q hq => by
    have hq' : q < wn w := hq
    obtain ⟨c1, c2, c3, c4, c5⟩ := a4 q (by omega)
    obtain ⟨d1, d2, d3, d4, d5⟩ := hg2.2.2 q hq
    exact ⟨c1.trans d1, c2.trans d2, c3.trans d3, c4.trans d4, (c5 (by omega)).trans d5⟩⟩
  refine o_servers (le := le) rfl hS1 hS2 5 0 w3 (by omega) (by omega) g3 (by rw [a2]; rfl) ⟨b1.trans k2, r0, by rw [b3]; exact i2.1, fun k hk => by rw [b3]; exact i2.2 k hk⟩ ⟨k0, l0, fun s hs => by omega⟩ (fun w4 g4 n4 hO hC => ?_)
  unfold f_X5_init_82
  have M4 : Mks (wn w) (wn w + 2 + 133 * S) [] w4 w4 := Mks.z n4
  refine ok_mk M4 (by omega) hO.1 (N := 6) rfl (by omega) (by omega) (by decide) (fun w5 M5 => ?_)
  obtain ⟨a1, a2, a3, a4, a5, a6⟩ := M5
  obtain ⟨r0, k0, l0, i0, j0⟩ := a6 0 _ rfl
  obtain ⟨b1, b2, b3, b4, -⟩ := a4 (wn w) (by omega)
  have g5 : NewF w w5 := ⟨by rw [a2]; omega, a3 g4.2.1, fun q hq => by
    have hq' : q < wn w := hq
    obtain ⟨c1, c2, c3, c4, c5⟩ := a4 q (by omega)
    obtain ⟨d1, d2, d3, d4, d5⟩ := g4.2.2 q hq
    exact ⟨c1.trans d1, c2.trans d2, c3.trans d3, c4.trans d4, (c5 (by omega)).trans d5⟩⟩
  have e5 := a5 0 (by decide)
  have ag5 : Ag (fun q => wn w + 1 ≤ q ∧ q < wn w + 2 + 133 * S) w4 w5 := fun q hq => by
    obtain ⟨c1, c2, c3, c4, c5⟩ := a4 q (by omega)
    exact ⟨c1, c2, c3, c4, c5 (by omega)⟩
  refine o_clients (le := le) (S := S) rfl hS1 hS2 7 0 w5 (by omega) (by omega) g5 (by rw [a2]; show wn w + 2 + 133 * S + 1 = aCl (wn w) S 0; unfold aCl; omega) ⟨b1.trans hO.1, e5.trans hO.2.1, by rw [b3]; exact hO.2.2.1, fun k hk => by rw [b3]; exact hO.2.2.2 k hk⟩ r0 (hC.ag ag5) ⟨k0, l0, fun c hc => by omega⟩ (fun w6 g6 n6 hO6 hR6 hC6 hD6 => ?_)
  unfold f_X5_init_124
  refine ok_nwO <| ok_call (row_make (cap := 400) g6.2.1 rfl (by omega)) (fun _ w7 z => ?_)
  obtain ⟨z1, z2, z3⟩ := z
  have z2' : Ag (fun q => q < aCl (wn w) S 6) w6 w7 := by
    have := z2.2.2
    rw [n6] at this
    exact this
  rw [n6] at z1 z3 ⊢
  have eA : aCl (wn w) S 6 = aRw (wn w) S := by unfold aCl aRw; omega
  rw [eA] at z1 z2' z3 ⊢
  have hO7 := hO6.ag (z2'.mono (fun q hq => by unfold aRw; omega))
  have hC7 := hC6.ag (z2'.mono (fun q hq => by unfold aRw; omega))
  have hD7 := hD6.ag (z2'.mono (fun q hq => by rw [eA] at hq; exact hq.2))
  have hR7 : wR w7 (wn w) 1 = some (aCa (wn w) S) := by rw [(z2' (wn w) (by unfold aRw; omega)).2.2.2.2]; exact hR6
  have g7 := g6.tr z2
  refine ok_pR hO7.1 <| ok_ret ⟨by show wn w7 = _; rw [z1]; unfold aRw aMo; omega, g7.sR (Nat.le_refl _), ?_⟩
  have g8 : Ag (fun q => q ≠ wn w) w7 (sR w7 (wn w) 2 (some (aRw (wn w) S))) := agR
  refine ⟨⟨hO7.1, by rw [wR_s, if_neg (by omega)]; exact hO7.2.1, hO7.2.2.1, hO7.2.2.2⟩, by rw [wR_s, if_neg (by omega)]; exact hR7, by rw [wR_s, if_pos ⟨rfl, rfl⟩], hC7.ag (g8.mono (fun q hq => by omega)), hD7.ag (g8.mono (fun q hq => by unfold aCa at hq; omega)), z3.ag (g8.mono (fun q hq => by unfold aRw at hq; omega)) (fun x hx => by simp at hx)⟩
end N2
