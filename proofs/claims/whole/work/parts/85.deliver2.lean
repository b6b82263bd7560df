/-! DELIVER, II -/
section DW
variable {w w' : Wd} {o m S : Nat} {le : Int32} {sc : Nat → Int32} {cl : Nat → ClD} {mem kept : Nat → Nat → BkD} {up cn dy : Nat → Bool} {row : List Ltr} {held : Nat → List Ltr} {fl : List (Nat × Ltr)}
theorem erase_mem {i : Nat} {t : Ltr} (h : t ∈ row.eraseIdx i) : t ∈ row := List.mem_of_mem_eraseIdx h
/-- a letter is gone, another perhaps sent -/
theorem Inv.del {k i s : Nat} {d : Bool} {T : Ltr} (h : Inv S k sc cl mem kept up row held) (hk : k < 512) (hT : ∀ op, op ≤ 600 → (∀ t, t ∈ row → LtOk S cl op t) → LtOk S cl op T) : Inv S (k + 1) sc cl mem kept up (sfR d (row.eraseIdx i) T) (sfH d held s T) := by
  refine h.lts hk (fun op a0 a1 a2 a3 a4 => ⟨fun u hu => ?_, fun p hp u hu => ?_⟩) (fun p hp => sfH_len)
  · rcases sfR_mem hu with z | z
    · exact a3 u (erase_mem z)
    · rw [z]; exact hT op a0 a3
  · rcases sfH_mem hu with z | z
    · exact a4 p hp u z
    · rw [z]; exact hT op a0 a3
theorem Inv.ers {k i : Nat} (h : Inv S k sc cl mem kept up row held) (hk : k < 512) : Inv S (k + 1) sc cl mem kept up (row.eraseIdx i) held := h.lts hk (fun op a0 a1 a2 a3 a4 => ⟨fun u hu => a3 u (erase_mem hu), a4⟩) (fun s hs => Nat.le_succ _)
theorem Inv.bk1 {k s b : Nat} {d : BkD} (h : Inv S k sc cl mem kept up row held) (hd : ∀ op, op ≤ 600 → (∀ s b, s < S → b < 8 → (up s = true → BkOk S cl op (mem s b)) ∧ BkOk S cl op (kept s b)) → (∀ t, t ∈ row → LtOk S cl op t) → up s = true → BkOk S cl op d) : Inv S k sc cl (up2b mem s b d) kept up row held := by
  refine h.bks (fun op a0 a1 a2 a3 p q hp hq => ⟨fun hup => ?_, (a2 p q hp hq).2⟩)
  by_cases e : p = s ∧ q = b
  · obtain ⟨rfl, rfl⟩ := e
    rw [up2b_self]; exact hd op a0 a2 a3 hup
  · rw [up2b_ne e]; exact (a2 p q hp hq).1 hup
theorem effS4 {e : Bool} : effS e sc 4 = sc 4 := by
  unfold effS
  cases e with
  | false => rfl
  | true =>
    show va_up sc 2 (sc 2 + 1) 4 = sc 4
    exact va_up_ne _ _ (by decide)
theorem donS4 {e : Bool} : donS e sc 4 = sc 4 := by
  unfold donS
  cases e with
  | false => rfl
  | true =>
    show va_up sc 3 (sc 3 + 1) 4 = sc 4
    exact va_up_ne _ _ (by decide)
theorem st_deliver (x : Int32) : Same2 o S le (f_X5_deliver o x) (f_X6_deliver (aMo o S) x) := by
  rintro w k hk ⟨sc, cl, mem, kept, up, dy, row, held, hR, hI⟩
  obtain ⟨e50, h400⟩ := hR.2.e50
  have h4 := hR.1.1.2.1
  have hor := in_row (L := row.length) (by omega) x
  by_cases hn : 0 ≤ x ∧ x ≤ nI row.length - 1
  · obtain ⟨i, hi, rfl⟩ := hor.mp hn
    obtain ⟨t, ht⟩ : ∃ t, row[i] = t := ⟨_, rfl⟩
    have htm : t ∈ row := by rw [← ht]; exact List.getElem_mem hi
    obtain ⟨op, hopk, -, -, hbk, hrow, -⟩ := id hI.2.1
    have hk5 := hI.1
    have hlt := hrow t htm
    have hlen := hI.2.2.2
    have emx : ∀ s b, up s = true → mxm up mem kept s b = mem s b := fun s b hu => by unfold mxm; rw [hu]; rfl
    have down : ∀ s, s < S → t.1.2.1 = nI s → ¬ t.1.1 = 2 → up s = false → ∃ v w1 w2, f_X5_deliver o (nI i) w = some (v, w1) ∧ wK w1 (aMo o S) = 7 ∧ f_X6_deliver (aMo o S) (nI i) w1 = some (v, w2) ∧ Rel w2 o S le (k + 1) := fun s hs hto h2 hu => mkStep hR (c_del_down hR.1 hi ht h2 hs hto hu) (fun w1 h1 => m_del_down h1 h4 hi ht h2 hs hto hu) ((hI.ers hk).sc' (va_up_ne _ _ (by omega)))
    rcases hlt with ⟨h0, s, c, n, kk, hs, hc, n1, n6, hkk, hto, hfr, ho, hnum, hkey⟩ | ⟨h0, c, s, n, hc, hs, n1, n6, hto, hfr, hnum, hcode⟩ | ⟨h0, s, e, b, hs, he, hb, hto, hfr, hb1, hb2, hrec⟩ | ⟨h0, s, e, b, hs, he, hb, hto, hfr, hb1, hb2⟩ | ⟨h0, s, c, hs, hc, hto, hfr, ho⟩
    · have hk2 : ¬ t.1.1 = 2 := by rw [h0]; decide
      cases hu : up s with
      | false => exact down s hs hto hk2 hu
      | true =>
        have hb : kk % 8 < 8 := Nat.mod_lt _ (by omega)
        have hB := (hbk s (kk % 8) hs hb).1 hu
        have hls := hlen s hs
        generalize hA : askD (kpP cl (sc 0) (nI c, t.2.1.1, nI 0, 0)) (mem s (kk % 8)) c t.2.1.1 t.2.1.2.1 t.2.1.2.2 t.2.2.1.2.1 t.2.2.1.2.2.1 t.2.2.1.2.2.2 (kk / 8) = A
        have hC := c_del_up hR.1 hi ht hk2 hs hto hu (P := fun w2 => AnsC w2 o S le (effS A.2.1 sc) cl (up2b (mxm up mem kept) s (kk % 8) A.2.2.1) kept up (drt (A.1 || A.2.1) false (cnf up dy) s) (row.eraseIdx i) held s (mkAns s c t.2.1.1 t.2.1.2.1 A.2.2.2.1 A.2.2.2.2)) (fun x w1 r1 x1 x2 x3 => by
          unfold f_X5_takeAtServer
          refine ok_gI x1.1.1 x1.1.2.1 <| ok_t h0 <| ok_chk r1.2.1.1.1 <| ok_call (c_takeRequest (op := op) r1 x1 h0 x2 x3 hs hc hfr hkk hkey (by omega) ho (by omega)) (fun _ w2 y => ok_ret (y A ?_))
          rw [emx s _ hu]; exact hA.symm)
        refine mkStep hR (ok_mono hC (fun v w' z => ⟨z.1, ans_bridge hu z.2.1, z.2.2⟩)) (fun w1 h1 => m_del h1 h4 hi ht (Or.inr ⟨s, hs, hto, hu⟩) (P := fun w2 => RM w2 (aMo o S) S le _ cl _ kept up _ _ _) (fun l w2 h2 => ?_)) (((hI.bk1 (s := s) (b := kk % 8) (d := A.2.2.1) (fun op a0 a2 a3 hup => ?_)).del hk (i := i) (s := s) (d := drt (A.1 || A.2.1) true dy s s) (T := mkAns s c t.2.1.1 t.2.1.2.1 A.2.2.2.1 A.2.2.2.2) (fun op a0 a3 => ?_)).sc' (sfL4.trans effS4))
        · have hM2 := h2.1.1
          unfold f_X6_deliver_70
          refine ok_t h0 <| ok_chk hM2.1 <| ok_call (m_asked (op := op) h2 h4 (by simp) (by simp) h0 hs hto hu hc hfr hkk hkey hB.1 hB.2.2 (by omega)) (fun _ w3 y => ?_)
          obtain ⟨y1, y2⟩ := y A hA.symm
          exact m_put y1 (fun q1 q2 => ⟨rfl, q1, y2.tr q2⟩)
        · rw [← hA, hnum]
          rcases a3 t htm with ⟨-, s9, c9, n9, k9, -, hc9, -, -, -, -, g2, g3, -⟩ | ⟨g0, -⟩ | ⟨g0, -⟩ | ⟨g0, -⟩ | ⟨g0, -⟩
          · have hcc : c9 = c := by
              have : nI c9 = nI c := by rw [← g2, hfr]
              rwa [nI_eq (by omega) (by omega)] at this
            subst hcc
            exact askD_ok ((a2 s _ hs hb).1 hup) hc g3 n6
          · rw [h0] at g0; exact absurd g0 (by decide)
          · rw [h0] at g0; exact absurd g0 (by decide)
          · rw [h0] at g0; exact absurd g0 (by decide)
          · rw [h0] at g0; exact absurd g0 (by decide)
        · refine Or.inr (Or.inl ⟨rfl, c, s, n, hc, hs, n1, n6, rfl, rfl, hnum, fun z => ?_⟩)
          have z1 : A.2.2.2.1 = 1 := z
          have z2 : A.2.2.2.2 = (mem s (kk % 8)).2.2.1.toInt64 := by
            rw [← hA] at z1 ⊢
            exact askD_code z1
          obtain ⟨e, he, e1⟩ := hB.2.1
          refine ⟨e, he, ?_⟩
          show A.2.2.2.2.toInt32 = nI e
          rw [z2, e1]; simp
    · have q0 : n = (n - 1) + 1 := by omega
      have hcl := hI.2.2.1 c hc
      rw [q0] at hnum
      have hI1 := ansD_ok (i := t.2.1.1) (q := n - 1) hcl hcode
      refine mkStep hR (ok_mono (c_del_ans hR.1 hi ht h0 hc hto (q := n - 1) (by omega) hnum hcl) (fun v w' z => ⟨z.1, z.2.1 _ rfl, z.2.2⟩)) (fun w1 h1 => m_del h1 h4 hi ht (Or.inl h0) (P := fun w2 => RM w2 (aMo o S) S le _ _ _ kept up _ _ _) (fun l w2 h2 => ?_)) (((hI.ers hk).cli hI1.1 hI1.2).sc' donS4)
      have hM2 := h2.1.1
      unfold f_X6_deliver_70
      refine ok_f (by rw [h0]; decide) <| ok_t h0 <| ok_chk hM2.1 <| ok_call (m_answered h2 (l := l) (t := t) (by simp) h0 hc hto (q := n - 1) (by omega) hnum hcl) (fun _ w3 y => ?_)
      obtain ⟨y1, y2⟩ := y _ rfl
      exact m_put y1 (fun q1 q2 => ⟨rfl, q1, y2.tr q2⟩)
    · have hk2 : ¬ t.1.1 = 2 := by rw [h0]; decide
      cases hu : up s with
      | false => exact down s hs hto hk2 hu
      | true =>
        have hls := hlen s hs
        generalize hA : movD (mem s b) t.2.1.1 s t.2.2.2 = A
        have hC := c_del_up hR.1 hi ht hk2 hs hto hu (P := fun w2 => AnsC w2 o S le sc cl (up2b (mxm up mem kept) s b A.1) kept up (drt A.2 false (cnf up dy) s) (row.eraseIdx i) held s (mkTak e s b t.2.1.1)) (fun x w1 r1 x1 x2 x3 => by
          unfold f_X5_takeAtServer
          refine ok_gI x1.1.1 x1.1.2.1 <| ok_f (by rw [h0]; decide) <| ok_f hk2 <| ok_t h0 <| ok_chk r1.2.1.1.1 <| ok_call (c_takeMove r1 x1 h0 x2 x3 hs hb hfr hb1 (by omega)) (fun _ w2 y => ok_ret (y A ?_))
          rw [emx s _ hu]; exact hA.symm)
        refine mkStep hR (ok_mono hC (fun v w' z => ⟨z.1, ans_bridge hu z.2.1, z.2.2⟩)) (fun w1 h1 => m_del h1 h4 hi ht (Or.inr ⟨s, hs, hto, hu⟩) (P := fun w2 => RM w2 (aMo o S) S le _ cl _ kept up _ _ _) (fun l w2 h2 => ?_)) (((hI.bk1 (s := s) (b := b) (d := A.1) (fun op a0 a2 a3 hup => ?_)).del hk (i := i) (s := s) (d := drt A.2 true dy s s) (T := mkTak e s b t.2.1.1) (fun op a0 a3 => ?_)).sc' sfL4)
        · have hM2 := h2.1.1
          unfold f_X6_deliver_70
          refine ok_f (by rw [h0]; decide) <| ok_f hk2 <| ok_t h0 <| ok_chk hM2.1 <| ok_call (m_moved h2 h4 (by simp) (l := l) (t := t) (by simp) h0 hs hb hu hto hfr hb2 (by omega)) (fun _ w3 y => ?_)
          obtain ⟨y1, y2⟩ := y A hA.symm
          exact m_put y1 (fun q1 q2 => ⟨rfl, q1, y2.tr q2⟩)
        · rw [← hA]
          unfold movD
          split
          · exact (a2 s b hs hb).1 hup
          · refine ⟨Or.inr (Or.inl rfl), ⟨s, hs, rfl⟩, ?_⟩
            rcases a3 t htm with ⟨g0, -⟩ | ⟨g0, -⟩ | ⟨-, s9, c9, b9, -, -, -, -, -, -, -, g⟩ | ⟨g0, -⟩ | ⟨g0, -⟩
            · rw [h0] at g0; exact absurd g0 (by decide)
            · rw [h0] at g0; exact absurd g0 (by decide)
            · exact g
            · rw [h0] at g0; exact absurd g0 (by decide)
            · rw [h0] at g0; exact absurd g0 (by decide)
        · exact Or.inr (Or.inr (Or.inr (Or.inl ⟨rfl, e, s, b, he, hs, hb, rfl, rfl, rfl, rfl⟩)))
    · have hk2 : ¬ t.1.1 = 2 := by rw [h0]; decide
      cases hu : up s with
      | false => exact down s hs hto hk2 hu
      | true =>
        generalize hA : tkD (mem s b) t.2.1.1 = A
        have hC := c_del_up hR.1 hi ht hk2 hs hto hu (P := fun w2 => RC w2 o S le sc cl (up2b (mxm up mem kept) s b A.1) kept up (drt A.2 false (cnf up dy) s) (row.eraseIdx i) held) (fun x w1 r1 x1 x2 x3 => by
          unfold f_X5_takeAtServer
          refine ok_gI x1.1.1 x1.1.2.1 <| ok_f (by rw [h0]; decide) <| ok_f hk2 <| ok_f (by rw [h0]; decide) <| ok_t h0 <| ok_chk r1.2.1.1.1 <| ok_call (c_takeTaken r1 x1 h0 x2 x3 hs hb hb1) (fun _ w2 y => ok_ret (y A ?_))
          rw [emx s _ hu]; exact hA.symm)
        refine mkStep hR (ok_mono hC (fun v w' z => ⟨z.1, z.2.1.bridge hu, z.2.2⟩)) (fun w1 h1 => m_del h1 h4 hi ht (Or.inr ⟨s, hs, hto, hu⟩) (P := fun w2 => RM w2 (aMo o S) S le _ cl _ kept up _ _ _) (fun l w2 h2 => ?_)) ((hI.bk1 (s := s) (b := b) (d := A.1) (fun op a0 a2 a3 hup => ?_)).ers hk)
        · have hM2 := h2.1.1
          unfold f_X6_deliver_70
          refine ok_f (by rw [h0]; decide) <| ok_f hk2 <| ok_f (by rw [h0]; decide) <| ok_t h0 <| ok_chk hM2.1 <| ok_call (m_taken h2 h4 (l := l) (t := t) (by simp) h0 hs hb hu hto hb2) (fun _ w3 y => ?_)
          obtain ⟨y1, y2⟩ := y A hA.symm
          exact m_put y1 (fun q1 q2 => ⟨rfl, q1, y2.tr q2⟩)
        · rw [← hA]
          unfold tkD
          have hb0 := (a2 s b hs hb).1 hup
          split
          · exact ⟨Or.inl rfl, hb0.2.1, fun r hr => absurd hr (by simp)⟩
          · exact hb0
    · have hk2 : ¬ t.1.1 = 2 := by rw [h0]; decide
      cases hu : up s with
      | false => exact down s hs hto hk2 hu
      | true =>
        have hC := c_del_up hR.1 hi ht hk2 hs hto hu (P := fun w2 => RC w2 o S le sc cl (ackM (mxm up mem kept) s c t.2.1.1 t.2.1.2.1 8) kept up (drt (ackB (mxm up mem kept) s c t.2.1.1 t.2.1.2.1 8) false (cnf up dy) s) (row.eraseIdx i) held) (fun x w1 r1 x1 x2 x3 => by
          unfold f_X5_takeAtServer
          refine ok_gI x1.1.1 x1.1.2.1 <| ok_f (by rw [h0]; decide) <| ok_f hk2 <| ok_f (by rw [h0]; decide) <| ok_f (by rw [h0]; decide) <| ok_t h0 <| ok_chk r1.2.1.1.1 ?_
          unfold f_X5_takeAck
          exact ok_call (c_ackL h0 x2 hs hc hfr FU 0 w1 (by unfold FU; omega) (by omega) x1 x3 (by rw [ackM_0]; exact r1)) (fun _ w2 y => ok_ret y))
        have eB : ∀ j, ackB (mxm up mem kept) s c t.2.1.1 t.2.1.2.1 j = ackB mem s c t.2.1.1 t.2.1.2.1 j := by
          intro j
          induction j with
          | zero => rfl
          | succ j ih =>
            show (ackB (mxm up mem kept) s c t.2.1.1 t.2.1.2.1 j || (decide ((mxm up mem kept s j).1 = 1) && knC (mxm up mem kept s j) c t.2.1.1 t.2.1.2.1)) = _
            rw [ih, emx s j hu]; rfl
        refine mkStep hR (ok_mono hC (fun v w' z => ⟨z.1, z.2.1.ext (fun p q hp hq => ?_) (fun _ _ _ _ => rfl) (fun _ _ => rfl) (fun p hp => ?_) (fun _ _ => rfl), z.2.2⟩)) (fun w1 h1 => m_del h1 h4 hi ht (Or.inr ⟨s, hs, hto, hu⟩) (P := fun w2 => RM w2 (aMo o S) S le sc cl (ackM mem s c t.2.1.1 t.2.1.2.1 8) kept up (drt (ackB mem s c t.2.1.1 t.2.1.2.1 8) true dy s) (row.eraseIdx i) held) (fun l w2 h2 => ?_)) ((hI.bks (mem' := ackM mem s c t.2.1.1 t.2.1.2.1 8) (kept' := kept) (up' := up) (fun op a0 a1 a2 a3 p q hp hq => ⟨fun hup => ?_, (a2 p q hp hq).2⟩)).ers hk)
        · unfold mxm ackM
          by_cases e : p = s
          · subst e
            simp [hu]
          · simp [e]
        · rw [eB]; exact cnf_drt hu p
        · unfold f_X6_deliver_70
          refine ok_f (by rw [h0]; decide) <| ok_f hk2 <| ok_f (by rw [h0]; decide) <| ok_f (by rw [h0]; decide) ?_
          exact m_ackL (op := op) h0 hs h4 hu hc hto hfr (fun b hb => ((hbk s b hs hb).1 hu).2.2) t.1.1 FU 0 w2 (by unfold FU; omega) (by omega) (by rw [ackM_0]; exact h2)
        · have hb0 := (a2 p q hp hq).1 hup
          unfold ackM
          split
          · exact knD_ok hb0
          · exact hb0
  · obtain ⟨La, hr, -⟩ := hR.1.2.2.2.2.2.1
    refine mkSame (r := -1) hR hI hk (ok_eq ?_) (ok_eq ?_)
    · unfold f_X5_deliver
      exact ok_gR hR.1.2.1.1.1 hR.1.2.1.1.2.2.2 (ok_chk hr.1 (ok_use (c_at_out hR.1 (fun z => hn (hor.mpr z))) (ok_t rfl (ok_ret ⟨rfl, rfl⟩))))
    · unfold f_X6_deliver
      refine ok_gI hR.2.1.1.1 e50 (ok_use m_in ?_)
      rw [if_neg hn]
      exact ok_t rfl (ok_ret ⟨rfl, rfl⟩)
end DW
