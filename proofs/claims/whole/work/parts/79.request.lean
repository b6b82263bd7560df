/-! A REQUEST IS TAKEN: the class -/
section RQ
variable {w w' : Wd} {o m S : Nat} {le : Int32} {sc : Nat → Int32} {cl : Nat → ClD} {mem kept : Nat → Nat → BkD} {up cn dy : Nat → Bool} {row : List Ltr} {held : Nat → List Ltr} {fl : List (Nat × Ltr)}
def AnsC (w' : Wd) (o S : Nat) (le : Int32) (sc : Nat → Int32) (cl : Nat → ClD) (mem kept : Nat → Nat → BkD) (up cn : Nat → Bool) (row : List Ltr) (held : Nat → List Ltr) (s : Nat) (T : Ltr) : Prop := RC w' o S le (sfL (!cn s) sc row) cl mem kept up cn (sfR (!cn s) row T) (sfH (!cn s) held s T)
def AnsM (w' : Wd) (m S : Nat) (le : Int32) (sc : Nat → Int32) (cl : Nat → ClD) (mem kept : Nat → Nat → BkD) (up dy : Nat → Bool) (row : List Ltr) (held : Nat → List Ltr) (fl : List (Nat × Ltr)) (s : Nat) (T : Ltr) : Prop := RMF w' m S le (sfL (dy s) sc row) cl mem kept up dy (sfR (dy s) row T) (sfH (dy s) held s T) fl
def effS (e : Bool) (sc : Nat → Int32) : Nat → Int32 := if e then va_up sc 2 (sc 2 + 1) else sc
def drt (e v : Bool) (f : Nat → Bool) (s : Nat) : Nat → Bool := if e then va_up f s v else f
theorem drt_drt {a e v : Bool} {f : Nat → Bool} {s : Nat} : drt e v (drt a v f s) s = drt (a || e) v f s := by
  unfold drt
  cases a <;> cases e <;> simp
  funext p
  by_cases h : p = s
  · subst h; simp [va_up]
  · simp [va_up, h]
/-- bucket d after an act and its record -/
def askF (d : BkD) (c : Nat) (i n act : Int32) (p q : Int64) (j : Nat) : BkD := (d.1, d.2.1, d.2.2.1, va_up d.2.2.2.1 j (actN act p q (d.2.2.2.1 j)), d.2.2.2.2.1 ++ [(nI c, i, n, actR act p (d.2.2.2.1 j))], d.2.2.2.2.2.1, d.2.2.2.2.2.2)
/-- an own bucket is asked, once FIRST is known: an effect; the bucket; code and value -/
def askE (d : BkD) (c : Nat) (i n act : Int32) (p q : Int64) (j : Nat) : Bool × BkD × Int32 × Int64 :=
  if d.2.2.2.2.2.2 c ≤ n then Option.elim (d.2.2.2.2.1.find? (recB (nI c) i n)) (if d.2.2.2.2.1.length < 12 then (true, askF d c i n act p q j, 0, actR act p (d.2.2.2.1 j)) else (false, d, 2, 0)) (fun r => (false, d, 0, r.2.2.2))
  else (false, d, 4, 0)
/-- a bucket is asked: a change by what is known; the rest -/
def askD (lv : Bool) (d : BkD) (c : Nat) (i n f act : Int32) (p q : Int64) (j : Nat) : Bool × Bool × BkD × Int32 × Int64 :=
  if lv = false then (false, false, d, 3, 0) else if d.1 = 2 then (false, false, d, 2, 0) else if d.1 = 0 then (false, false, d, 1, d.2.2.1.toInt64) else (knC d c i f, askE (knD d c i f) c i n act p q j)
theorem c_own13 (h : RC w o S le sc cl mem kept up cn row held) {x s b c k : Nat} {t : Ltr} (hx : LTC w x t) (h1 : t.1.1 = 1) (hT : aMo o S + 45 ≤ x) (hn : x < wn w) (hs : s < S) (hb : b < 8) (hc6 : c < 6) (hc : t.1.2.2 = nI c) (hk : k < 32) (hkey : t.2.2.1.1 = nI k) (hh : (held s).length < 512) : ok (f_X5_takeOwnRequest_13 o (some (aSv o s)) (some (aMb o s b)) (some x) w) (fun _ w' => ∀ E, E = askE (mem s b) c t.2.1.1 t.2.1.2.1 t.2.2.1.2.1 t.2.2.1.2.2.1 t.2.2.1.2.2.2 (k / 8) → AnsC w' o S le (effS E.1 sc) cl (up2b mem s b E.2.1) kept up (drt E.1 false cn s) row held s (mkAns s c t.2.1.1 t.2.1.2.1 E.2.2.1 E.2.2.2) ∧ Cf o S w w') := by
  have hB := (h.2.2.2.2.1 s b hs hb).1
  have k0 := h.2.1.1.1
  have kb := hB.1.1.1
  have kx := hx.1.1
  have hS := h.1.2.1
  have hxa : x < aMb o s b ∨ aMb o s b + 7 < x := Or.inr (by unfold aMb; unfold aMo at hT; omega)
  obtain ⟨x3, x5, x6, x9, x10, x11, x12⟩ := hx.2.1 h1
  have x2 : wI w x 2 = nI c := hx.1.2.2.2.trans hc
  unfold f_X5_takeOwnRequest_13
  refine ok_chk kb <| ok_call (bk_find hB kx) (fun v w1 z => ?_)
  obtain ⟨ew, z⟩ := z
  rw [ew]
  rw [x2, x3, x5] at z
  refine ok_gI kx x5 <| ok_gI kx x2 <| ok_chk kb <| ok_use (bk_first hB hc6) <| ok_if (fun c1 => ?_) (fun c1 => ?_)
  · rcases z with ⟨q, r, z1, z2, z3, rfl⟩ | ⟨z1, rfl⟩
    · have hq : q < (mem s b).2.2.2.2.1.length := (List.getElem?_eq_some_iff.mp z1).1
      have hql : (mem s b).2.2.2.2.1.length ≤ 12 := hB.2.2.2.2.2.1
      have hr := hB.2.2.2.2.2.2.2.1 q r z1
      have hf : (mem s b).2.2.2.2.1.find? (recB (nI c) t.2.1.1 t.2.1.2.1) = some r := find_s z1 (recB_t.mpr z2) (fun a e ha he => recB_f (z3 a e ha he))
      refine ok_f (nI_pos (by omega)) <| ok_gR kb hB.1.1.2.2.2.2.2.1 <| ok_aL rfl hB.1.2.2.2.2.2.1.1 (by rw [hB.1.2.2.2.2.2.1.2]; omega) (by omega) (v := r.2.2.2) (by rw [← hr]; rfl) <| ok_chk k0 <| ok_call (c_answer h hx h1 hT hn hs hc hh 0 r.2.2.2) (fun _ w2 y => ok_ret (fun E hE => ?_))
      unfold askE at hE
      rw [if_pos c1, hf] at hE
      subst hE
      refine ⟨?_, y.2⟩
      show AnsC w2 o S le sc cl (up2b mem s b (mem s b)) kept up cn row held s _
      rw [up2b_id rfl]; exact y.1
    · have hf : (mem s b).2.2.2.2.1.find? (recB (nI c) t.2.1.1 t.2.1.2.1) = none := find_n (fun r hr => recB_f (z1 r hr))
      refine ok_t (by decide) <| ok_gI kb hB.2.2.2.2.1 <| ok_if (fun c2 => ?_) (fun c2 => ?_)
      · have hl : (mem s b).2.2.2.2.1.length < 12 := by
          have := hB.2.2.2.2.2.1
          rwa [show (12 : Int32) = nI 12 from rfl, nI_ltI (by omega) (by omega)] at c2
        refine ok_chk kb <| ok_call (bk_act hB kx hk (x9.trans hkey)) (fun v w2 y => ?_)
        obtain ⟨y1, y2, y3⟩ := y
        obtain ⟨r2, f2⟩ := h.bkt hs hb (d := acD (mem s b) (k / 8) (actN (wI w x 10) (wL w x 11) (wL w x 12) ((mem s b).2.2.2.1 (k / 8)))) y1 y3
        have xx2 := hx.cf hT hn f2
        have hn2 : x < wn w2 := Nat.lt_of_lt_of_le hn f2.1
        obtain ⟨u3, u5, u6, -⟩ := xx2.2.1 h1
        have u2 : wI w2 x 2 = nI c := xx2.1.2.2.2.trans hc
        refine ok_chk y3.1.1.1 <| ok_call (bk_add y3 xx2.1.1 hxa hl v) (fun _ w3 q => ?_)
        obtain ⟨q1, q2⟩ := q
        rw [u2, u3, u5] at q2
        obtain ⟨r3, f3⟩ := r2.bkt hs hb (d := askF (mem s b) c t.2.1.1 t.2.1.2.1 t.2.2.1.2.1 t.2.2.1.2.2.1 t.2.2.1.2.2.2 (k / 8)) q1 (by
          rw [y2, x10, x11, x12] at q2
          exact q2)
        rw [up2b_up] at r3
        refine ok_pZ (r3.2.2.1 s hs).1.1 (Or.inl rfl) ?_
        obtain ⟨r4, f4⟩ := r3.mark hs (up s) false (Or.inr ⟨rfl, rfl⟩)
        have r4' : RC _ o S le sc cl (up2b mem s b (askF (mem s b) c t.2.1.1 t.2.1.2.1 t.2.2.1.2.1 t.2.2.1.2.2.1 t.2.2.1.2.2.2 (k / 8))) kept up (va_up cn s false) row held := r4.ext (fun _ _ _ _ => rfl) (fun _ _ _ _ => rfl) (fun p hp => by rw [va_up_id rfl]) (fun _ _ => rfl) (fun _ _ => rfl)
        obtain ⟨r5, f5⟩ := r4'.num (k := 7) (j := 2) (v := sc 2 + 1) (Or.inr (Or.inr (Or.inr (Or.inl ⟨rfl, rfl⟩))))
        refine ok_gI r4'.2.1.1.1 r4'.2.1.2.1.2.2.2.2.1 <| ok_pI r4'.2.1.1.1 <| ok_chk r5.2.1.1.1 ?_
        have f6 := ((f2.tr f3).tr f4).tr f5
        have xx6 := hx.cf hT hn f6
        refine ok_call (c_answer r5 xx6 h1 hT (Nat.lt_of_lt_of_le hn f6.1) hs hc hh 0 v) (fun _ w6 g => ok_ret (fun E hE => ?_))
        unfold askE at hE
        rw [if_pos c1, hf] at hE
        have hE2 : E = (true, askF (mem s b) c t.2.1.1 t.2.1.2.1 t.2.2.1.2.1 t.2.2.1.2.2.1 t.2.2.1.2.2.2 (k / 8), 0, actR t.2.2.1.2.1 t.2.2.1.2.2.1 ((mem s b).2.2.2.1 (k / 8))) := by
          rw [hE]
          show (if (mem s b).2.2.2.2.1.length < 12 then _ else _) = _
          rw [if_pos hl]
        rw [y2, x10, x11] at g
        subst hE2
        exact ⟨g.1, f6.tr g.2⟩
      · have hl : ¬ (mem s b).2.2.2.2.1.length < 12 := by
          have := hB.2.2.2.2.2.1
          rwa [show (12 : Int32) = nI 12 from rfl, nI_ltI (by omega) (by omega)] at c2
        refine ok_chk k0 <| ok_call (c_answer h hx h1 hT hn hs hc hh 2 0) (fun _ w2 y => ok_ret (fun E hE => ?_))
        unfold askE at hE
        rw [if_pos c1, hf] at hE
        have hE2 : E = (false, mem s b, 2, 0) := by
          rw [hE]
          show (if (mem s b).2.2.2.2.1.length < 12 then _ else _) = _
          rw [if_neg hl]
        subst hE2
        refine ⟨?_, y.2⟩
        show AnsC w2 o S le sc cl (up2b mem s b (mem s b)) kept up cn row held s _
        rw [up2b_id rfl]; exact y.1
  · refine ok_chk k0 <| ok_call (c_answer h hx h1 hT hn hs hc hh 4 0) (fun _ w2 y => ok_ret (fun E hE => ?_))
    unfold askE at hE
    rw [if_neg c1] at hE
    subst hE
    refine ⟨?_, y.2⟩
    show AnsC w2 o S le sc cl (up2b mem s b (mem s b)) kept up cn row held s _
    rw [up2b_id rfl]; exact y.1
theorem c_own (h : RC w o S le sc cl mem kept up cn row held) {x s b c k : Nat} {t : Ltr} (hx : LTC w x t) (h1 : t.1.1 = 1) (hT : aMo o S + 45 ≤ x) (hn : x < wn w) (hs : s < S) (hb : b < 8) (hc6 : c < 6) (hc : t.1.2.2 = nI c) (hk : k < 32) (hkey : t.2.2.1.1 = nI k) (hh : (held s).length < 512) : ok (f_X5_takeOwnRequest o (some (aSv o s)) (some (aMb o s b)) (some x) w) (fun _ w' => ∀ C E, C = knC (mem s b) c t.2.1.1 t.2.1.2.2 → E = askE (knD (mem s b) c t.2.1.1 t.2.1.2.2) c t.2.1.1 t.2.1.2.1 t.2.2.1.2.1 t.2.2.1.2.2.1 t.2.2.1.2.2.2 (k / 8) → AnsC w' o S le (effS E.1 sc) cl (up2b mem s b E.2.1) kept up (drt (C || E.1) false cn s) row held s (mkAns s c t.2.1.1 t.2.1.2.1 E.2.2.1 E.2.2.2) ∧ Cf o S w w') := by
  have hB := (h.2.2.2.2.1 s b hs hb).1
  have kx := hx.1.1
  have hS := h.1.2.1
  have hxa : x < aMb o s b ∨ aMb o s b + 7 < x := Or.inr (by unfold aMb; unfold aMo at hT; omega)
  obtain ⟨x3, x5, x6, -⟩ := hx.2.1 h1
  have x2 : wI w x 2 = nI c := hx.1.2.2.2.trans hc
  unfold f_X5_takeOwnRequest
  refine ok_chk hB.1.1.1 <| ok_call (bk_know hB hc6 kx hxa x2) (fun v w1 z => ?_)
  obtain ⟨z1, z2, z3⟩ := z
  rw [x3, x6] at z2 z3
  rw [z2, knB_C]
  obtain ⟨r1, f1⟩ := h.bkt hs hb (d := knD (mem s b) c t.2.1.1 t.2.1.2.2) z1 z3
  have xx1 := hx.cf hT hn f1
  cases hC : knC (mem s b) c t.2.1.1 t.2.1.2.2 with
  | false =>
    refine ok_t rfl <| ok_mono (c_own13 r1 xx1 h1 hT (Nat.lt_of_lt_of_le hn f1.1) hs hb hc6 hc hk hkey hh) (fun _ w2 y => ?_)
    intro C E e1 e2
    rw [up2b_self] at y
    obtain ⟨y1, y2⟩ := y E e2
    rw [up2b_up] at y1
    subst e1
    exact ⟨y1, f1.tr y2⟩
  | true =>
    refine ok_f (by decide) <| ok_pZ (r1.2.2.1 s hs).1.1 (Or.inl rfl) ?_
    obtain ⟨r2, f2⟩ := r1.mark hs (up s) false (Or.inr ⟨rfl, rfl⟩)
    have r2' : RC _ o S le sc cl (up2b mem s b (knD (mem s b) c t.2.1.1 t.2.1.2.2)) kept up (va_up cn s false) row held := r2.ext (fun _ _ _ _ => rfl) (fun _ _ _ _ => rfl) (fun p hp => by rw [va_up_id rfl]) (fun _ _ => rfl) (fun _ _ => rfl)
    have f3 := f1.tr f2
    have xx3 := hx.cf hT hn f3
    refine ok_mono (c_own13 r2' xx3 h1 hT (Nat.lt_of_lt_of_le hn f3.1) hs hb hc6 hc hk hkey hh) (fun _ w2 y => ?_)
    intro C E e1 e2
    rw [up2b_self] at y
    obtain ⟨y1, y2⟩ := y E e2
    rw [up2b_up] at y1
    subst e1
    refine ⟨?_, f3.tr y2⟩
    have e : va_up cn s false = drt true false cn s := rfl
    rw [e, drt_drt] at y1
    exact y1
theorem c_takeRequest (h : RC w o S le sc cl mem kept up cn row held) {x s c k op : Nat} {t : Ltr} (hx : LTC w x t) (h1 : t.1.1 = 1) (hT : aMo o S + 45 ≤ x) (hn : x < wn w) (hs : s < S) (hc6 : c < 6) (hc : t.1.2.2 = nI c) (hk : k < 32) (hkey : t.2.2.1.1 = nI k) (hop : op ≤ 600) (ho : Own cl op c t.2.1.1) (hh : (held s).length < 512) : ok (f_X5_takeRequest o (some (aSv o s)) (some x) w) (fun _ w' => ∀ A, A = askD (kpP cl (sc 0) (nI c, t.2.1.1, nI 0, 0)) (mem s (k % 8)) c t.2.1.1 t.2.1.2.1 t.2.1.2.2 t.2.2.1.2.1 t.2.2.1.2.2.1 t.2.2.1.2.2.2 (k / 8) → AnsC w' o S le (effS A.2.1 sc) cl (up2b mem s (k % 8) A.2.2.1) kept up (drt (A.1 || A.2.1) false cn s) row held s (mkAns s c t.2.1.1 t.2.1.2.1 A.2.2.2.1 A.2.2.2.2) ∧ Cf o S w w') := by
  have hb : k % 8 < 8 := Nat.mod_lt _ (by omega)
  have hB := (h.2.2.2.2.1 s (k % 8) hs hb).1
  have k0 := h.2.1.1.1
  have kx := hx.1.1
  obtain ⟨x3, x5, x6, x9, -⟩ := hx.2.1 h1
  have x2 : wI w x 2 = nI c := hx.1.2.2.2.trans hc
  have ks := (h.2.2.1 s hs).1.1
  have hlv := c_kp h (r := (nI c, t.2.1.1, nI 0, 0)) ⟨c, 0, hc6, rfl, ho, rfl, by omega⟩ hop
  unfold f_X5_takeRequest
  refine ok_gI kx (x9.trans hkey) <| ok_use (rfl : f_X5_bucketOf (nI k) w = _) <| ok_chk ks ?_
  rw [mod8 (by omega)]
  refine ok_use (c_bk_in h hs hb) <| ok_f (by simp) <| ok_gI kx x2 <| ok_gI kx x3 <| ok_chk k0 <| ok_use hlv ?_
  cases hl : kpP cl (sc 0) (nI c, t.2.1.1, nI 0, 0) with
  | false =>
    refine ok_t rfl <| ok_chk k0 <| ok_call (c_answer h hx h1 hT hn hs hc hh 3 0) (fun _ w2 y => ok_ret (fun A hA => ?_))
    unfold askD at hA
    rw [if_pos rfl] at hA
    subst hA
    refine ⟨?_, y.2⟩
    show AnsC w2 o S le sc cl (up2b mem s (k % 8) (mem s (k % 8))) kept up cn row held s _
    rw [up2b_id rfl]; exact y.1
  | true =>
    refine ok_f (by decide) <| ok_gI hB.1.1.1 hB.2.1 <| ok_if (fun c1 => ?_) (fun c1 => ok_gI hB.1.1.1 hB.2.1 <| ok_if (fun c2 => ?_) (fun c2 => ?_))
    · refine ok_chk k0 <| ok_call (c_answer h hx h1 hT hn hs hc hh 2 0) (fun _ w2 y => ok_ret (fun A hA => ?_))
      unfold askD at hA
      rw [if_neg (by decide), if_pos c1] at hA
      subst hA
      refine ⟨?_, y.2⟩
      show AnsC w2 o S le sc cl (up2b mem s (k % 8) (mem s (k % 8))) kept up cn row held s _
      rw [up2b_id rfl]; exact y.1
    · refine ok_gI hB.1.1.1 hB.2.2.2.1 <| ok_chk k0 <| ok_call (c_answer h hx h1 hT hn hs hc hh 1 (mem s (k % 8)).2.2.1.toInt64) (fun _ w2 y => ok_ret (fun A hA => ?_))
      unfold askD at hA
      rw [if_neg (by decide), if_neg c1, if_pos c2] at hA
      subst hA
      refine ⟨?_, y.2⟩
      show AnsC w2 o S le sc cl (up2b mem s (k % 8) (mem s (k % 8))) kept up cn row held s _
      rw [up2b_id rfl]; exact y.1
    · refine ok_chk k0 <| ok_call (c_own h hx h1 hT hn hs hb hc6 hc hk hkey hh) (fun _ w2 y => ok_ret (fun A hA => ?_))
      unfold askD at hA
      rw [if_neg (by decide), if_neg c1, if_neg c2] at hA
      have := y _ _ rfl rfl
      subst hA
      exact this
end RQ
