/-! THE LAW'S LOOP -/
section LL
variable {o S : Nat} {le : Int32} {xs : Nat → Int32} {L : Nat}
def An {α : Type} (x : Option α) : Prop := ∃ r, x = some r
theorem An_rd {α : Type} {i : Int32} {n : Nat} {f : Int32 → Option α} (hi : i = nI n) (hn : n < L) (hL : L ≤ 4098) (h : An (f (xs n))) : An (rdS xs L i f) := by
  subst hi
  unfold rdS
  rw [nI_clamp (by omega), if_neg (fun z => z.elim (nI_pos (by omega)) (fun y => by omega))]
  exact h
theorem An_chk {α : Type} {w : Wd} {a kd : Nat} {f : Nat → Option α} (hk : wK w a = kd) (h : An (f a)) : An (chk w (some a) kd f) := by rw [chk_t hk]; exact h
theorem An_bnd {α β : Type} {w' : Wd} {v : β} {x : Option (β × Wd)} {f : β → Wd → Option α} (hx : x = some (v, w')) (h : An (f v w')) : An (bnd x f) := by rw [hx]; exact h
theorem An_if {α : Type} {c : Prop} [Decidable c] {A B : Option α} (h1 : c → An A) (h2 : ¬ c → An B) : An (if c then A else B) := by
  by_cases h : c
  · rw [if_pos h]; exact h1 h
  · rw [if_neg h]; exact h2 h
theorem An_t {α : Type} {c : Prop} [Decidable c] {A B : Option α} (h : c) (h1 : An A) : An (if c then A else B) := by rw [if_pos h]; exact h1
theorem lawC {L p : Nat} (hL : L ≤ 4098) (hp : p ≤ 5000) : ((Int32.ofNat L) - 8 < nI p) ↔ L < p + 8 := by
  show (nI L - 8 < nI p) ↔ L < p + 8
  by_cases h : L < 8
  · have h8 : ∀ q : Fin 8, nI q.1 - 8 < 0 := by decide
    exact ⟨fun _ => by omega, fun _ => Int32.lt_of_lt_of_le (h8 ⟨L, h⟩) (nI_pos' (by omega))⟩
  · rw [show (8 : Int32) = nI 8 from rfl, nsub (by omega), nI_ltI (by omega) (by omega)]; omega
set_option maxHeartbeats 4000000 in
theorem law_loop (hL : L ≤ 4098) : ∀ (n j : Nat) (w : Wd), 512 < n + j → j ≤ 512 → Rel w o S le j → An (f_L_law_38 xs L n (some o) (some (aMo o S)) (nI (2 + 8 * j)) w) := by
  intro n
  induction n with
  | zero => intro j w h1 h2; omega
  | succ n ih =>
    intro j w h1 h2 hR
    rw [f_L_law_38.eq_2]
    refine An_if (fun _ => ⟨_, rfl⟩) (fun c => ?_)
    rw [lawC hL (by omega)] at c
    have hj : j < 512 := by omega
    generalize hp : 2 + 8 * j = p at c ⊢
    have hpL : p + 8 ≤ L := by omega
    have k0 : wK w o = 6 := by
      obtain ⟨sc, cl, mem, kept, up, dy, row, held, hA, -⟩ := hR
      exact hA.1.2.1.1.1
    have e1 : nI p + 1 = nI (p + 1) := nI_1 _
    have e2 : nI p + 2 = nI (p + 2) := nI_add _ 2
    have e3 : nI p + 3 = nI (p + 3) := nI_add _ 3
    have e4 : nI p + 4 = nI (p + 4) := nI_add _ 4
    have e5 : nI p + 5 = nI (p + 5) := nI_add _ 5
    have e6 : nI p + 6 = nI (p + 6) := nI_add _ 6
    have e7 : nI p + 7 = nI (p + 7) := nI_add _ 7
    have nxt : ∀ w2, Rel w2 o S le (j + 1) → An (f_L_law_945 xs L (f_L_law_38 xs L n) (some o) (some (aMo o S)) (nI p) w2) := by
      intro w2 h
      unfold f_L_law_945
      have e8 : nI p + 8 = nI (2 + 8 * (j + 1)) := by
        rw [show (8 : Int32) = nI 8 from rfl, nI_add]
        congr 1
        omega
      rw [e8]
      exact ih (j + 1) w2 (by omega) (by omega) h
    refine An_rd rfl (by omega) hL ?_
    refine An_if (fun _ => ?_) (fun _ => ?_)
    · obtain ⟨v, w1, w2, a1, a2, a3, a4⟩ := st_open (xs (p + 1)) w j hj hR
      exact An_rd e1 (by omega) hL <| An_chk k0 <| An_bnd a1 <| An_rd e1 (by omega) hL <| An_chk a2 <| An_bnd a3 <| An_t rfl <| nxt w2 a4
    refine An_if (fun _ => ?_) (fun _ => ?_)
    · obtain ⟨v, w1, w2, a1, a2, a3, a4⟩ := st_renew (xs (p + 1)) w j hj hR
      exact An_rd e1 (by omega) hL <| An_chk k0 <| An_bnd a1 <| An_rd e1 (by omega) hL <| An_chk a2 <| An_bnd a3 <| An_t rfl <| nxt w2 a4
    refine An_if (fun _ => ?_) (fun _ => ?_)
    · obtain ⟨v, w1, w2, a1, a2, a3, a4⟩ := st_call (xs (p + 1)) (xs (p + 2)) (xs (p + 3)) _ _ w j hj hR
      exact An_rd e1 (by omega) hL <| An_rd e2 (by omega) hL <| An_rd e3 (by omega) hL <| An_rd e4 (by omega) hL <| An_rd e5 (by omega) hL <| An_rd e6 (by omega) hL <| An_rd e7 (by omega) hL <| An_chk k0 <| An_bnd a1 <| An_rd e1 (by omega) hL <| An_rd e2 (by omega) hL <| An_rd e3 (by omega) hL <| An_rd e4 (by omega) hL <| An_rd e5 (by omega) hL <| An_rd e6 (by omega) hL <| An_rd e7 (by omega) hL <| An_chk a2 <| An_bnd a3 <| An_t rfl <| nxt w2 a4
    refine An_if (fun _ => ?_) (fun _ => ?_)
    · obtain ⟨v, w1, w2, a1, a2, a3, a4⟩ := st_retry (xs (p + 1)) (xs (p + 2)) w j hj hR
      exact An_rd e1 (by omega) hL <| An_rd e2 (by omega) hL <| An_chk k0 <| An_bnd a1 <| An_rd e1 (by omega) hL <| An_rd e2 (by omega) hL <| An_chk a2 <| An_bnd a3 <| An_t rfl <| nxt w2 a4
    refine An_if (fun _ => ?_) (fun _ => ?_)
    · obtain ⟨v, w1, w2, a1, a2, a3, a4⟩ := st_ack (xs (p + 1)) (xs (p + 2)) w j hj hR
      exact An_rd e1 (by omega) hL <| An_rd e2 (by omega) hL <| An_chk k0 <| An_bnd a1 <| An_rd e1 (by omega) hL <| An_rd e2 (by omega) hL <| An_chk a2 <| An_bnd a3 <| An_t rfl <| nxt w2 a4
    refine An_if (fun _ => ?_) (fun _ => ?_)
    · obtain ⟨v, w1, w2, a1, a2, a3, a4⟩ := st_deliver (xs (p + 1)) w j hj hR
      exact An_rd e1 (by omega) hL <| An_chk k0 <| An_bnd a1 <| An_rd e1 (by omega) hL <| An_chk a2 <| An_bnd a3 <| An_t rfl <| nxt w2 a4
    refine An_if (fun _ => ?_) (fun _ => ?_)
    · obtain ⟨v, w1, w2, a1, a2, a3, a4⟩ := st_drop (xs (p + 1)) w j hj hR
      exact An_rd e1 (by omega) hL <| An_chk k0 <| An_bnd a1 <| An_rd e1 (by omega) hL <| An_chk a2 <| An_bnd a3 <| An_t rfl <| nxt w2 a4
    refine An_if (fun _ => ?_) (fun _ => ?_)
    · obtain ⟨v, w1, w2, a1, a2, a3, a4⟩ := st_twin (xs (p + 1)) w j hj hR
      exact An_rd e1 (by omega) hL <| An_chk k0 <| An_bnd a1 <| An_rd e1 (by omega) hL <| An_chk a2 <| An_bnd a3 <| An_t rfl <| nxt w2 a4
    refine An_if (fun _ => ?_) (fun _ => ?_)
    · obtain ⟨v, w1, w2, a1, a2, a3, a4⟩ := st_sync (xs (p + 1)) w j hj hR
      exact An_rd e1 (by omega) hL <| An_chk k0 <| An_bnd a1 <| An_rd e1 (by omega) hL <| An_chk a2 <| An_bnd a3 <| An_t rfl <| nxt w2 a4
    refine An_if (fun _ => ?_) (fun _ => ?_)
    · obtain ⟨v, w1, w2, a1, a2, a3, a4⟩ := st_crash (xs (p + 1)) w j hj hR
      exact An_rd e1 (by omega) hL <| An_chk k0 <| An_bnd a1 <| An_rd e1 (by omega) hL <| An_chk a2 <| An_bnd a3 <| An_t rfl <| nxt w2 a4
    refine An_if (fun _ => ?_) (fun _ => ?_)
    · obtain ⟨v, w1, w2, a1, a2, a3, a4⟩ := st_start (xs (p + 1)) w j hj hR
      exact An_rd e1 (by omega) hL <| An_chk k0 <| An_bnd a1 <| An_rd e1 (by omega) hL <| An_chk a2 <| An_bnd a3 <| An_t rfl <| nxt w2 a4
    refine An_if (fun _ => ?_) (fun _ => ?_)
    · obtain ⟨v, w1, w2, a1, a2, a3, a4⟩ := st_move (xs (p + 1)) (xs (p + 2)) (xs (p + 3)) w j hj hR
      exact An_rd e1 (by omega) hL <| An_rd e2 (by omega) hL <| An_rd e3 (by omega) hL <| An_chk k0 <| An_bnd a1 <| An_rd e1 (by omega) hL <| An_rd e2 (by omega) hL <| An_rd e3 (by omega) hL <| An_chk a2 <| An_bnd a3 <| An_t rfl <| nxt w2 a4
    refine An_if (fun _ => ?_) (fun _ => ?_)
    · obtain ⟨v, w1, w2, a1, a2, a3, a4⟩ := st_collect (xs (p + 1)) w j hj hR
      exact An_rd e1 (by omega) hL <| An_chk k0 <| An_bnd a1 <| An_rd e1 (by omega) hL <| An_chk a2 <| An_bnd a3 <| An_t rfl <| nxt w2 a4
    refine An_if (fun _ => ?_) (fun _ => ?_)
    · obtain ⟨v, w1, w2, a1, a2, a3, a4⟩ := st_ticks (xs (p + 1)) w j hj hR
      exact An_rd e1 (by omega) hL <| An_chk k0 <| An_bnd a1 <| An_rd e1 (by omega) hL <| An_chk a2 <| An_bnd a3 <| An_t rfl <| nxt w2 a4
    refine An_if (fun _ => ?_) (fun _ => ?_)
    · obtain ⟨v, w1, w2, a1, a2, a3, a4⟩ := st_server (xs (p + 1)) (xs (p + 2)) w j hj hR
      exact An_rd e1 (by omega) hL <| An_rd e2 (by omega) hL <| An_chk k0 <| An_bnd a1 <| An_rd e1 (by omega) hL <| An_rd e2 (by omega) hL <| An_chk a2 <| An_bnd a3 <| An_t rfl <| nxt w2 a4
    refine An_if (fun _ => ?_) (fun _ => ?_)
    · obtain ⟨v, w1, w2, a1, a2, a3, a4⟩ := st_bucket (xs (p + 1)) (xs (p + 2)) (xs (p + 3)) w j hj hR
      exact An_rd e1 (by omega) hL <| An_rd e2 (by omega) hL <| An_rd e3 (by omega) hL <| An_chk k0 <| An_bnd a1 <| An_rd e1 (by omega) hL <| An_rd e2 (by omega) hL <| An_rd e3 (by omega) hL <| An_chk a2 <| An_bnd a3 <| An_t rfl <| nxt w2 a4
    refine An_if (fun _ => ?_) (fun _ => ?_)
    · obtain ⟨v, w1, w2, a1, a2, a3, a4⟩ := st_value (xs (p + 1)) (xs (p + 2)) w j hj hR
      exact An_rd e1 (by omega) hL <| An_rd e2 (by omega) hL <| An_chk k0 <| An_bnd a1 <| An_rd e1 (by omega) hL <| An_rd e2 (by omega) hL <| An_chk a2 <| An_bnd a3 <| An_t (lg_cmp_z.mpr rfl) <| nxt w2 a4
    refine An_if (fun _ => ?_) (fun _ => ?_)
    · obtain ⟨v, w1, w2, a1, a2, a3, a4⟩ := st_record (xs (p + 1)) (xs (p + 2)) (xs (p + 3)) (xs (p + 4)) w j hj hR
      exact An_rd e1 (by omega) hL <| An_rd e2 (by omega) hL <| An_rd e3 (by omega) hL <| An_rd e4 (by omega) hL <| An_chk k0 <| An_bnd a1 <| An_rd e1 (by omega) hL <| An_rd e2 (by omega) hL <| An_rd e3 (by omega) hL <| An_rd e4 (by omega) hL <| An_chk a2 <| An_bnd a3 <| An_t rfl <| nxt w2 a4
    refine An_if (fun _ => ?_) (fun _ => ?_)
    · obtain ⟨v, w1, w2, a1, a2, a3, a4⟩ := st_client (xs (p + 1)) (xs (p + 2)) w j hj hR
      exact An_rd e1 (by omega) hL <| An_rd e2 (by omega) hL <| An_chk k0 <| An_bnd a1 <| An_rd e1 (by omega) hL <| An_rd e2 (by omega) hL <| An_chk a2 <| An_bnd a3 <| An_t rfl <| nxt w2 a4
    refine An_if (fun _ => ?_) (fun _ => ?_)
    · obtain ⟨v, w1, w2, a1, a2, a3, a4⟩ := st_state (xs (p + 1)) (xs (p + 2)) w j hj hR
      exact An_rd e1 (by omega) hL <| An_rd e2 (by omega) hL <| An_chk k0 <| An_bnd a1 <| An_rd e1 (by omega) hL <| An_rd e2 (by omega) hL <| An_chk a2 <| An_bnd a3 <| An_t rfl <| nxt w2 a4
    refine An_if (fun _ => ?_) (fun _ => ?_)
    · obtain ⟨v, w1, w2, a1, a2, a3, a4⟩ := st_result (xs (p + 1)) (xs (p + 2)) w j hj hR
      exact An_rd e1 (by omega) hL <| An_rd e2 (by omega) hL <| An_chk k0 <| An_bnd a1 <| An_rd e1 (by omega) hL <| An_rd e2 (by omega) hL <| An_chk a2 <| An_bnd a3 <| An_t (lg_cmp_z.mpr rfl) <| nxt w2 a4
    refine An_if (fun _ => ?_) (fun _ => ?_)
    · obtain ⟨v, w1, w2, a1, a2, a3, a4⟩ := st_letter (xs (p + 1)) (xs (p + 2)) w j hj hR
      exact An_rd e1 (by omega) hL <| An_rd e2 (by omega) hL <| An_chk k0 <| An_bnd a1 <| An_rd e1 (by omega) hL <| An_rd e2 (by omega) hL <| An_chk a2 <| An_bnd a3 <| An_t rfl <| nxt w2 a4
    refine An_if (fun _ => ?_) (fun _ => ?_)
    · obtain ⟨v, w1, w2, a1, a2, a3, a4⟩ := st_count (xs (p + 1)) w j hj hR
      exact An_rd e1 (by omega) hL <| An_chk k0 <| An_bnd a1 <| An_rd e1 (by omega) hL <| An_chk a2 <| An_bnd a3 <| An_t rfl <| nxt w2 a4
    · obtain ⟨sc, cl, mem, kept, up, dy, row, held, hA, hI⟩ := hR
      exact nxt w ⟨sc, cl, mem, kept, up, dy, row, held, hA, hI.up hj⟩
end LL
