/-! THE LAW'S FUNCTION ANSWERS, over every script -/
theorem w0_wf (n : Nat) : Wf (w0 n) := fun a h => absurd rfl h
theorem law_ok {xs : Nat → Int32} {L : Nat} (hL : L ≤ 4098) (n : Nat) : ∃ res, f_L_law xs L (w0 n) = some res := by
  suffices ok (f_L_law xs L (w0 n)) (fun _ _ => True) by
    obtain ⟨v, w', e, -⟩ := this
    exact ⟨_, e⟩
  obtain ⟨S, h2, h4, a1, a2⟩ := x_norm (cellV xs L 0)
  obtain ⟨le, b1, b2⟩ := le_norm (cellV xs L 1)
  unfold f_L_law
  refine ok_nwO ?_
  rw [a1, b1]
  refine ok_call (o_make (le := le) (w0_wf n) (by omega) h4) (fun _ w4 z => ?_)
  obtain ⟨z1, z2, z3⟩ := z
  refine ok_nwO <| ok_call (m_make (S := S) (le := le) z2.2.1 h2 h4 (fun o w => a2 o _ w) b2) (fun _ w9 y => ?_)
  obtain ⟨y1, y2, y3⟩ := y
  have hag : Ag (fun q => q < aMo (wn (w0 n)) S) w4 w9 := by
    have := y1.2.2
    rw [z1] at this
    exact this
  rw [z1] at y2 y3 ⊢
  have hrc := (z3.ag hag).rc h2 h4 y1.2.1 (by rw [y2]; exact Nat.le_refl _)
  obtain ⟨r, e⟩ := law_loop (xs := xs) (o := wn (w0 n)) (S := S) (le := le) hL 514 0 w9 (by omega) (by omega) ⟨_, _, _, _, _, _, _, _, ⟨hrc, y3⟩, inv0 h2⟩
  exact ⟨r.1, r.2, e, trivial⟩
