abbrev rX6_init : Room := { frames := 1, cells := 44, slots := 376290, locals := 20 }
def f_X6_init_425 (K452 : Nat → Wd → Option (Unit × Wd)) : Nat → Nat → Int32 → Wd → Option (Unit × Wd)
  | 0, _, _, _ => none
  | n + 1, o, x3, w => if 48 ≤ x3 then (K452 o w) else (gR w (some o) 7 10 (fun v411 => gI w (some o) 7 0 (fun v416 => nz v416 (tI w v411 100 x3 ((x3 - x3 / 8 * 8) - (x3 - x3 / 8 * 8) / v416 * v416) (fun w422 => (f_X6_init_425 K452 n) o (x3 + 1) w422)))))
set_option maxHeartbeats 4000000 in
set_option maxRecDepth 100000 in
theorem b_X6_init_425 {l : Launch} {D : va_G} {aC : Nat → ClassId} {b0 : Nat} {p : Program} {e : Env} {s : State} {m : MethodId} {args : Array Value} {below : List Frame} {meth : Method} {c : Code} (X : Cx D aC p s m args meth c cX6_init RX6 6 "<init>" none) {res : (Unit × Wd)} {K452 : Nat → Wd → Option (Unit × Wd)} (hK452 : ∀ (o : Nat) (w : Wd), BW l D aC b0 p e rX6_init s m args below meth c (Qe D aC b0 below args s 44 376290 none res.2) res 44 376290 0 0 (K452 o w) w 452 6 [(0, va_rf (some o))] []) : ∀ (n : Nat) (o : Nat) (x3 : Int32) (w : Wd), BW l D aC b0 p e rX6_init s m args below meth c (Qe D aC b0 below args s 44 376290 none res.2) res 44 376290 0 0 (f_X6_init_425 K452 n o x3 w) w 425 6 [(0, va_rf (some o)), (3, .int x3)] [] := by
  intro n
  induction n with
  | zero =>
    intro o x3 w H locs cells slots ls hf
    rw [f_X6_init_425.eq_1] at hf
    cases hf
  | succ n ih =>
    intro o x3 w H locs cells slots ls hf M hS hc hs hl
    rw [f_X6_init_425.eq_2] at hf
    refine lv_iload_n X.1 X.2.1 dX6_init_425 rfl (lv_at hl 1 rfl) ?_
    refine lv_bipush (v := 48) X.1 X.2.1 dX6_init_426 (by decide) ?_
    refine lv_icmp_ge (tgt := 452) X.1 X.2.1 dX6_init_428 (by decide) (fun c409 => ?_) (fun c409 => ?_)
    · rw [if_pos c409] at hf
      exact hK452 o w _ _ _ _ _ hf M hS (by omega) (by omega) (lv_sub hl [0] rfl)
    · rw [if_neg c409] at hf
      refine q_aload_n X dX6_init_431 rfl (lv_at hl 0 rfl) ?_
      have ho := gR_e hf
      clear hf
      obtain ⟨a410, v411, e412, k413, q414, hf⟩ := ho
      cases e412
      refine q_get X M flX6_19.g k413 (congrArg va_rf q414) dX6_init_432 ?_
      refine lv_iload_n X.1 X.2.1 dX6_init_435 rfl (lv_at hl 1 rfl) ?_
      refine lv_iload_n X.1 X.2.1 dX6_init_436 rfl (lv_at hl 1 rfl) ?_
      refine lv_bipush (v := 8) X.1 X.2.1 dX6_init_437 (by decide) ?_
      refine lv_irem X.1 X.2.1 dX6_init_439 (by decide) ?_
      refine q_aload_n X dX6_init_440 rfl (lv_at hl 0 rfl) ?_
      have ho := gI_e hf
      clear hf
      obtain ⟨a415, v416, e417, k418, q419, hf⟩ := ho
      cases e417
      refine q_get X M flX6_145.g k418 (congrArg Value.int q419) dX6_init_441 ?_
      have ho := nz_e hf
      clear hf
      obtain ⟨z420, hf⟩ := ho
      refine lv_irem X.1 X.2.1 dX6_init_444 z420 ?_
      have ho := tI_e hf
      clear hf
      obtain ⟨a421, w422, e423, k424, i425, q426, hf⟩ := ho
      cases e423
      refine q_iast X M hS k424 i425 dX6_init_445 (fun H locs M hS => ?_)
      rw [q426] at M
      refine lv_iinc (v := (x3 + 1)) (lv' := [(3, .int (x3 + 1)), (0, va_rf (some o))]) X.1 X.2.1 dX6_init_446 hl (k := 1) rfl rfl (by decide) rfl (fun ls hl => ?_)
      refine lv_goto (tgt := 425) X.1 X.2.1 dX6_init_449 (by decide) ?_
      exact ih o (x3 + 1) w422 _ _ _ _ _ hf M hS (by omega) (by omega) (lv_sub hl [1, 0] rfl)
def f_X6_init_537 (K467 : Nat → Int32 → Int32 → Wd → Option (Unit × Wd)) (o : Nat) (x3 : Int32) (x4 : Int32) (y0 : Option Nat) (y1 : Int32) (y2 : Int32) (w : Wd) : Option (Unit × Wd) := tI w y0 100 y1 y2 (fun w460 => gR w460 (some o) 7 19 (fun v466 => gI w460 (some o) 7 0 (fun v471 => nz v471 (tI w460 v466 100 ((8 * x3) + x4) (x4 - x4 / v471 * v471) (fun w477 => K467 o x3 (x4 + 1) w477)))))
set_option maxHeartbeats 4000000 in
set_option maxRecDepth 100000 in
theorem b_X6_init_537 {l : Launch} {D : va_G} {aC : Nat → ClassId} {b0 : Nat} {p : Program} {e : Env} {s : State} {m : MethodId} {args : Array Value} {below : List Frame} {meth : Method} {c : Code} (X : Cx D aC p s m args meth c cX6_init RX6 6 "<init>" none) {res : (Unit × Wd)} {K467 : Nat → Int32 → Int32 → Wd → Option (Unit × Wd)} (hK467 : ∀ (o : Nat) (x3 : Int32) (x4 : Int32) (w : Wd), BW l D aC b0 p e rX6_init s m args below meth c (Qe D aC b0 below args s 44 376290 none res.2) res 44 376290 0 0 (K467 o x3 x4 w) w 467 6 [(0, va_rf (some o)), (3, .int x3), (4, .int x4)] []) : ∀ (o : Nat) (x3 : Int32) (x4 : Int32) (y0 : Option Nat) (y1 : Int32) (y2 : Int32) (w : Wd), BW l D aC b0 p e rX6_init s m args below meth c (Qe D aC b0 below args s 44 376290 none res.2) res 44 376290 0 0 (f_X6_init_537 K467 o x3 x4 y0 y1 y2 w) w 537 6 [(0, va_rf (some o)), (3, .int x3), (4, .int x4)] [.int y2, .int y1, va_rf y0] := by
  intro o x3 x4 y0 y1 y2 w H locs cells slots ls hf M hS hc hs hl
  unfold f_X6_init_537 at hf
  have ho := tI_e hf
  clear hf
  obtain ⟨a459, w460, e461, k462, i463, q464, hf⟩ := ho
  cases e461
  refine q_iast X M hS k462 i463 dX6_init_537 (fun H locs M hS => ?_)
  rw [q464] at M
  refine q_aload_n X dX6_init_538 rfl (lv_at hl 0 rfl) ?_
  have ho := gR_e hf
  clear hf
  obtain ⟨a465, v466, e467, k468, q469, hf⟩ := ho
  cases e467
  refine q_get X M flX6_47.g k468 (congrArg va_rf q469) dX6_init_539 ?_
  refine lv_bipush (v := 8) X.1 X.2.1 dX6_init_542 (by decide) ?_
  refine lv_iload_n X.1 X.2.1 dX6_init_544 rfl (lv_at hl 1 rfl) ?_
  refine lv_imul X.1 X.2.1 dX6_init_545 ?_
  refine lv_iload X.1 X.2.1 dX6_init_546 (lv_at hl 2 rfl) ?_
  refine lv_iadd X.1 X.2.1 dX6_init_548 ?_
  refine lv_iload X.1 X.2.1 dX6_init_549 (lv_at hl 2 rfl) ?_
  refine q_aload_n X dX6_init_551 rfl (lv_at hl 0 rfl) ?_
  have ho := gI_e hf
  clear hf
  obtain ⟨a470, v471, e472, k473, q474, hf⟩ := ho
  cases e472
  refine q_get X M flX6_145.g k473 (congrArg Value.int q474) dX6_init_552 ?_
  have ho := nz_e hf
  clear hf
  obtain ⟨z475, hf⟩ := ho
  refine lv_irem X.1 X.2.1 dX6_init_555 z475 ?_
  have ho := tI_e hf
  clear hf
  obtain ⟨a476, w477, e478, k479, i480, q481, hf⟩ := ho
  cases e478
  refine q_iast X M hS k479 i480 dX6_init_556 (fun H locs M hS => ?_)
  rw [q481] at M
  refine lv_iinc (v := (x4 + 1)) (lv' := [(4, .int (x4 + 1)), (0, va_rf (some o)), (3, .int x3)]) X.1 X.2.1 dX6_init_557 hl (k := 2) rfl rfl (by decide) rfl (fun ls hl => ?_)
  refine lv_goto (tgt := 467) X.1 X.2.1 dX6_init_560 (by decide) ?_
  exact hK467 o x3 (x4 + 1) w477 _ _ _ _ _ hf M hS (by omega) (by omega) (lv_sub hl [1, 2, 0] rfl)
def f_X6_init_515 (K467 : Nat → Int32 → Int32 → Wd → Option (Unit × Wd)) (o : Nat) (x3 : Int32) (x4 : Int32) (x5 : Int32) (y0 : Option Nat) (y1 : Int32) (y2 : Int32) (w : Wd) : Option (Unit × Wd) := tI w y0 100 y1 y2 (fun w448 => gR w448 (some o) 7 18 (fun v454 => if x5 = 0 then ((f_X6_init_537 K467) o x3 x4 v454 ((8 * x3) + x4) 0 w448) else ((f_X6_init_537 K467) o x3 x4 v454 ((8 * x3) + x4) 1 w448)))
set_option maxHeartbeats 4000000 in
set_option maxRecDepth 100000 in
theorem b_X6_init_515 {l : Launch} {D : va_G} {aC : Nat → ClassId} {b0 : Nat} {p : Program} {e : Env} {s : State} {m : MethodId} {args : Array Value} {below : List Frame} {meth : Method} {c : Code} (X : Cx D aC p s m args meth c cX6_init RX6 6 "<init>" none) {res : (Unit × Wd)} {K467 : Nat → Int32 → Int32 → Wd → Option (Unit × Wd)} (hK467 : ∀ (o : Nat) (x3 : Int32) (x4 : Int32) (w : Wd), BW l D aC b0 p e rX6_init s m args below meth c (Qe D aC b0 below args s 44 376290 none res.2) res 44 376290 0 0 (K467 o x3 x4 w) w 467 6 [(0, va_rf (some o)), (3, .int x3), (4, .int x4)] []) : ∀ (o : Nat) (x3 : Int32) (x4 : Int32) (x5 : Int32) (y0 : Option Nat) (y1 : Int32) (y2 : Int32) (w : Wd), BW l D aC b0 p e rX6_init s m args below meth c (Qe D aC b0 below args s 44 376290 none res.2) res 44 376290 0 0 (f_X6_init_515 K467 o x3 x4 x5 y0 y1 y2 w) w 515 6 [(0, va_rf (some o)), (3, .int x3), (4, .int x4), (5, .int x5)] [.int y2, .int y1, va_rf y0] := by
  intro o x3 x4 x5 y0 y1 y2 w H locs cells slots ls hf M hS hc hs hl
  unfold f_X6_init_515 at hf
  have ho := tI_e hf
  clear hf
  obtain ⟨a447, w448, e449, k450, i451, q452, hf⟩ := ho
  cases e449
  refine q_iast X M hS k450 i451 dX6_init_515 (fun H locs M hS => ?_)
  rw [q452] at M
  refine q_aload_n X dX6_init_516 rfl (lv_at hl 0 rfl) ?_
  have ho := gR_e hf
  clear hf
  obtain ⟨a453, v454, e455, k456, q457, hf⟩ := ho
  cases e455
  refine q_get X M flX6_44.g k456 (congrArg va_rf q457) dX6_init_517 ?_
  refine lv_bipush (v := 8) X.1 X.2.1 dX6_init_520 (by decide) ?_
  refine lv_iload_n X.1 X.2.1 dX6_init_522 rfl (lv_at hl 1 rfl) ?_
  refine lv_imul X.1 X.2.1 dX6_init_523 ?_
  refine lv_iload X.1 X.2.1 dX6_init_524 (lv_at hl 2 rfl) ?_
  refine lv_iadd X.1 X.2.1 dX6_init_526 ?_
  refine lv_iload X.1 X.2.1 dX6_init_527 (lv_at hl 3 rfl) ?_
  refine lv_if_eq (tgt := 536) X.1 X.2.1 dX6_init_529 (by decide) (fun c458 => ?_) (fun c458 => ?_)
  · rw [if_pos c458] at hf
    refine lv_iconst (v := 0) X.1 X.2.1 dX6_init_536 (by decide) ?_
    exact (b_X6_init_537 X hK467) o x3 x4 v454 ((8 * x3) + x4) 0 w448 _ _ _ _ _ hf M hS (by omega) (by omega) (lv_sub hl [0, 1, 2] rfl)
  · rw [if_neg c458] at hf
    refine lv_iconst (v := 1) X.1 X.2.1 dX6_init_532 (by decide) ?_
    refine lv_goto (tgt := 537) X.1 X.2.1 dX6_init_533 (by decide) ?_
    exact (b_X6_init_537 X hK467) o x3 x4 v454 ((8 * x3) + x4) 1 w448 _ _ _ _ _ hf M hS (by omega) (by omega) (lv_sub hl [0, 1, 2] rfl)
def f_X6_init_492 (K467 : Nat → Int32 → Int32 → Wd → Option (Unit × Wd)) (o : Nat) (x3 : Int32) (x4 : Int32) (y0 : Int32) (w : Wd) : Option (Unit × Wd) := gR w (some o) 7 17 (fun v442 => if y0 = 0 then ((f_X6_init_515 K467) o x3 x4 y0 v442 ((8 * x3) + x4) 0 w) else ((f_X6_init_515 K467) o x3 x4 y0 v442 ((8 * x3) + x4) 1 w))
set_option maxHeartbeats 4000000 in
set_option maxRecDepth 100000 in
theorem b_X6_init_492 {l : Launch} {D : va_G} {aC : Nat → ClassId} {b0 : Nat} {p : Program} {e : Env} {s : State} {m : MethodId} {args : Array Value} {below : List Frame} {meth : Method} {c : Code} (X : Cx D aC p s m args meth c cX6_init RX6 6 "<init>" none) {res : (Unit × Wd)} {K467 : Nat → Int32 → Int32 → Wd → Option (Unit × Wd)} (hK467 : ∀ (o : Nat) (x3 : Int32) (x4 : Int32) (w : Wd), BW l D aC b0 p e rX6_init s m args below meth c (Qe D aC b0 below args s 44 376290 none res.2) res 44 376290 0 0 (K467 o x3 x4 w) w 467 6 [(0, va_rf (some o)), (3, .int x3), (4, .int x4)] []) : ∀ (o : Nat) (x3 : Int32) (x4 : Int32) (y0 : Int32) (w : Wd), BW l D aC b0 p e rX6_init s m args below meth c (Qe D aC b0 below args s 44 376290 none res.2) res 44 376290 0 0 (f_X6_init_492 K467 o x3 x4 y0 w) w 492 6 [(0, va_rf (some o)), (3, .int x3), (4, .int x4)] [.int y0] := by
  intro o x3 x4 y0 w H locs cells slots ls hf M hS hc hs hl
  unfold f_X6_init_492 at hf
  refine lv_istore (i := 5) (lv' := [(5, .int y0), (0, va_rf (some o)), (3, .int x3), (4, .int x4)]) X.1 X.2.1 dX6_init_492 hl (by decide) rfl (fun ls hl => ?_)
  refine q_aload_n X dX6_init_494 rfl (lv_at hl 1 rfl) ?_
  have ho := gR_e hf
  clear hf
  obtain ⟨a441, v442, e443, k444, q445, hf⟩ := ho
  cases e443
  refine q_get X M flX6_41.g k444 (congrArg va_rf q445) dX6_init_495 ?_
  refine lv_bipush (v := 8) X.1 X.2.1 dX6_init_498 (by decide) ?_
  refine lv_iload_n X.1 X.2.1 dX6_init_500 rfl (lv_at hl 2 rfl) ?_
  refine lv_imul X.1 X.2.1 dX6_init_501 ?_
  refine lv_iload X.1 X.2.1 dX6_init_502 (lv_at hl 3 rfl) ?_
  refine lv_iadd X.1 X.2.1 dX6_init_504 ?_
  refine lv_iload X.1 X.2.1 dX6_init_505 (lv_at hl 0 rfl) ?_
  refine lv_if_eq (tgt := 514) X.1 X.2.1 dX6_init_507 (by decide) (fun c446 => ?_) (fun c446 => ?_)
  · rw [if_pos c446] at hf
    refine lv_iconst (v := 0) X.1 X.2.1 dX6_init_514 (by decide) ?_
    exact (b_X6_init_515 X hK467) o x3 x4 y0 v442 ((8 * x3) + x4) 0 w _ _ _ _ _ hf M hS (by omega) (by omega) (lv_sub hl [1, 2, 3, 0] rfl)
  · rw [if_neg c446] at hf
    refine lv_iconst (v := 1) X.1 X.2.1 dX6_init_510 (by decide) ?_
    refine lv_goto (tgt := 515) X.1 X.2.1 dX6_init_511 (by decide) ?_
    exact (b_X6_init_515 X hK467) o x3 x4 y0 v442 ((8 * x3) + x4) 1 w _ _ _ _ _ hf M hS (by omega) (by omega) (lv_sub hl [1, 2, 3, 0] rfl)
def f_X6_init_467 (K563 : Nat → Int32 → Wd → Option (Unit × Wd)) : Nat → Nat → Int32 → Int32 → Wd → Option (Unit × Wd)
  | 0, _, _, _, _ => none
  | n + 1, o, x3, x4, w => if 8 ≤ x4 then (K563 o x3 w) else (gI w (some o) 7 0 (fun v435 => nz v435 (if (x4 - x4 / v435 * v435) = (x3 / 2) then ((f_X6_init_492 (f_X6_init_467 K563 n)) o x3 x4 1 w) else ((f_X6_init_492 (f_X6_init_467 K563 n)) o x3 x4 0 w))))
set_option maxHeartbeats 4000000 in
set_option maxRecDepth 100000 in
theorem b_X6_init_467 {l : Launch} {D : va_G} {aC : Nat → ClassId} {b0 : Nat} {p : Program} {e : Env} {s : State} {m : MethodId} {args : Array Value} {below : List Frame} {meth : Method} {c : Code} (X : Cx D aC p s m args meth c cX6_init RX6 6 "<init>" none) {res : (Unit × Wd)} {K563 : Nat → Int32 → Wd → Option (Unit × Wd)} (hK563 : ∀ (o : Nat) (x3 : Int32) (w : Wd), BW l D aC b0 p e rX6_init s m args below meth c (Qe D aC b0 below args s 44 376290 none res.2) res 44 376290 0 0 (K563 o x3 w) w 563 6 [(0, va_rf (some o)), (3, .int x3)] []) : ∀ (n : Nat) (o : Nat) (x3 : Int32) (x4 : Int32) (w : Wd), BW l D aC b0 p e rX6_init s m args below meth c (Qe D aC b0 below args s 44 376290 none res.2) res 44 376290 0 0 (f_X6_init_467 K563 n o x3 x4 w) w 467 6 [(0, va_rf (some o)), (3, .int x3), (4, .int x4)] [] := by
  intro n
  induction n with
  | zero =>
    intro o x3 x4 w H locs cells slots ls hf
    rw [f_X6_init_467.eq_1] at hf
    cases hf
  | succ n ih =>
    intro o x3 x4 w H locs cells slots ls hf M hS hc hs hl
    rw [f_X6_init_467.eq_2] at hf
    refine lv_iload X.1 X.2.1 dX6_init_467 (lv_at hl 2 rfl) ?_
    refine lv_bipush (v := 8) X.1 X.2.1 dX6_init_469 (by decide) ?_
    refine lv_icmp_ge (tgt := 563) X.1 X.2.1 dX6_init_471 (by decide) (fun c433 => ?_) (fun c433 => ?_)
    · rw [if_pos c433] at hf
      exact hK563 o x3 w _ _ _ _ _ hf M hS (by omega) (by omega) (lv_sub hl [0, 1] rfl)
    · rw [if_neg c433] at hf
      refine lv_iload X.1 X.2.1 dX6_init_474 (lv_at hl 2 rfl) ?_
      refine q_aload_n X dX6_init_476 rfl (lv_at hl 0 rfl) ?_
      have ho := gI_e hf
      clear hf
      obtain ⟨a434, v435, e436, k437, q438, hf⟩ := ho
      cases e436
      refine q_get X M flX6_145.g k437 (congrArg Value.int q438) dX6_init_477 ?_
      have ho := nz_e hf
      clear hf
      obtain ⟨z439, hf⟩ := ho
      refine lv_irem X.1 X.2.1 dX6_init_480 z439 ?_
      refine lv_iload_n X.1 X.2.1 dX6_init_481 rfl (lv_at hl 1 rfl) ?_
      refine lv_iconst (v := 2) X.1 X.2.1 dX6_init_482 (by decide) ?_
      refine lv_idiv X.1 X.2.1 dX6_init_483 (by decide) ?_
      refine lv_icmp_ne (tgt := 491) X.1 X.2.1 dX6_init_484 (by decide) (fun c440 => ?_) (fun c440 => ?_)
      · rw [if_neg c440] at hf
        refine lv_iconst (v := 0) X.1 X.2.1 dX6_init_491 (by decide) ?_
        exact (b_X6_init_492 X ih) o x3 x4 0 w _ _ _ _ _ hf M hS (by omega) (by omega) (lv_sub hl [0, 1, 2] rfl)
      · rw [if_pos c440] at hf
        refine lv_iconst (v := 1) X.1 X.2.1 dX6_init_487 (by decide) ?_
        refine lv_goto (tgt := 492) X.1 X.2.1 dX6_init_488 (by decide) ?_
        exact (b_X6_init_492 X ih) o x3 x4 1 w _ _ _ _ _ hf M hS (by omega) (by omega) (lv_sub hl [0, 1, 2] rfl)
def f_X6_init_563 (K454 : Nat → Int32 → Wd → Option (Unit × Wd)) (o : Nat) (x3 : Int32) (w : Wd) : Option (Unit × Wd) := gR w (some o) 7 28 (fun v483 => tZ w v483 102 (x3 / 2) 1 (fun w488 => K454 o (x3 + 1) w488))
set_option maxHeartbeats 4000000 in
set_option maxRecDepth 100000 in
theorem b_X6_init_563 {l : Launch} {D : va_G} {aC : Nat → ClassId} {b0 : Nat} {p : Program} {e : Env} {s : State} {m : MethodId} {args : Array Value} {below : List Frame} {meth : Method} {c : Code} (X : Cx D aC p s m args meth c cX6_init RX6 6 "<init>" none) {res : (Unit × Wd)} {K454 : Nat → Int32 → Wd → Option (Unit × Wd)} (hK454 : ∀ (o : Nat) (x3 : Int32) (w : Wd), BW l D aC b0 p e rX6_init s m args below meth c (Qe D aC b0 below args s 44 376290 none res.2) res 44 376290 0 0 (K454 o x3 w) w 454 6 [(0, va_rf (some o)), (3, .int x3)] []) : ∀ (o : Nat) (x3 : Int32) (w : Wd), BW l D aC b0 p e rX6_init s m args below meth c (Qe D aC b0 below args s 44 376290 none res.2) res 44 376290 0 0 (f_X6_init_563 K454 o x3 w) w 563 6 [(0, va_rf (some o)), (3, .int x3)] [] := by
  intro o x3 w H locs cells slots ls hf M hS hc hs hl
  unfold f_X6_init_563 at hf
  refine q_aload_n X dX6_init_563 rfl (lv_at hl 0 rfl) ?_
  have ho := gR_e hf
  clear hf
  obtain ⟨a482, v483, e484, k485, q486, hf⟩ := ho
  cases e484
  refine q_get X M flX6_74.g k485 (congrArg va_rf q486) dX6_init_564 ?_
  refine lv_iload_n X.1 X.2.1 dX6_init_567 rfl (lv_at hl 1 rfl) ?_
  refine lv_iconst (v := 2) X.1 X.2.1 dX6_init_568 (by decide) ?_
  refine lv_idiv X.1 X.2.1 dX6_init_569 (by decide) ?_
  refine lv_iconst (v := 1) X.1 X.2.1 dX6_init_570 (by decide) ?_
  have ho := tZ_e hf
  clear hf
  obtain ⟨a487, w488, e489, k490, i491, z493, q492, hf⟩ := ho
  cases e489
  refine q_zast X M hS k490 z493 i491 dX6_init_571 (fun H locs M hS => ?_)
  rw [q492] at M
  refine lv_iinc (v := (x3 + 1)) (lv' := [(3, .int (x3 + 1)), (0, va_rf (some o))]) X.1 X.2.1 dX6_init_572 hl (k := 1) rfl rfl (by decide) rfl (fun ls hl => ?_)
  refine lv_goto (tgt := 454) X.1 X.2.1 dX6_init_575 (by decide) ?_
  exact hK454 o (x3 + 1) w488 _ _ _ _ _ hf M hS (by omega) (by omega) (lv_sub hl [1, 0] rfl)
def f_X6_init_454 : Nat → Nat → Int32 → Wd → Option (Unit × Wd)
  | 0, _, _, _ => none
  | n + 1, o, x3, w => gI w (some o) 7 0 (fun v428 => if (2 * v428) ≤ x3 then (some ((), w)) else ((f_X6_init_467 (f_X6_init_563 (f_X6_init_454 n)) FU) o x3 0 w))
set_option maxHeartbeats 4000000 in
set_option maxRecDepth 100000 in
theorem b_X6_init_454 {l : Launch} {D : va_G} {aC : Nat → ClassId} {b0 : Nat} {p : Program} {e : Env} {s : State} {m : MethodId} {args : Array Value} {below : List Frame} {meth : Method} {c : Code} (X : Cx D aC p s m args meth c cX6_init RX6 6 "<init>" none) {res : (Unit × Wd)} : ∀ (n : Nat) (o : Nat) (x3 : Int32) (w : Wd), BW l D aC b0 p e rX6_init s m args below meth c (Qe D aC b0 below args s 44 376290 none res.2) res 44 376290 0 0 (f_X6_init_454 n o x3 w) w 454 6 [(0, va_rf (some o)), (3, .int x3)] [] := by
  intro n
  induction n with
  | zero =>
    intro o x3 w H locs cells slots ls hf
    rw [f_X6_init_454.eq_1] at hf
    cases hf
  | succ n ih =>
    intro o x3 w H locs cells slots ls hf M hS hc hs hl
    rw [f_X6_init_454.eq_2] at hf
    refine lv_iload_n X.1 X.2.1 dX6_init_454 rfl (lv_at hl 1 rfl) ?_
    refine lv_iconst (v := 2) X.1 X.2.1 dX6_init_455 (by decide) ?_
    refine q_aload_n X dX6_init_456 rfl (lv_at hl 0 rfl) ?_
    have ho := gI_e hf
    clear hf
    obtain ⟨a427, v428, e429, k430, q431, hf⟩ := ho
    cases e429
    refine q_get X M flX6_145.g k430 (congrArg Value.int q431) dX6_init_457 ?_
    refine lv_imul X.1 X.2.1 dX6_init_460 ?_
    refine lv_icmp_ge (tgt := 578) X.1 X.2.1 dX6_init_461 (by decide) (fun c432 => ?_) (fun c432 => ?_)
    · rw [if_pos c432] at hf
      obtain rfl := Option.some.inj hf
      exact q_vret X M hS (by omega) (by omega) dX6_init_578
    · rw [if_neg c432] at hf
      refine lv_iconst (v := 0) X.1 X.2.1 dX6_init_464 (by decide) ?_
      refine lv_istore (i := 4) (lv' := [(4, .int 0), (0, va_rf (some o)), (3, .int x3)]) X.1 X.2.1 dX6_init_465 hl (by decide) rfl (fun ls hl => ?_)
      exact (b_X6_init_467 X (b_X6_init_563 X ih) FU) o x3 0 w _ _ _ _ _ hf M hS (by omega) (by omega) (lv_sub hl [1, 2, 0] rfl)
def f_X6_init_452 (o : Nat) (w : Wd) : Option (Unit × Wd) := (f_X6_init_454 FU) o 0 w
set_option maxHeartbeats 4000000 in
set_option maxRecDepth 100000 in
theorem b_X6_init_452 {l : Launch} {D : va_G} {aC : Nat → ClassId} {b0 : Nat} {p : Program} {e : Env} {s : State} {m : MethodId} {args : Array Value} {below : List Frame} {meth : Method} {c : Code} (X : Cx D aC p s m args meth c cX6_init RX6 6 "<init>" none) {res : (Unit × Wd)} : ∀ (o : Nat) (w : Wd), BW l D aC b0 p e rX6_init s m args below meth c (Qe D aC b0 below args s 44 376290 none res.2) res 44 376290 0 0 (f_X6_init_452 o w) w 452 6 [(0, va_rf (some o))] [] := by
  intro o w H locs cells slots ls hf M hS hc hs hl
  unfold f_X6_init_452 at hf
  refine lv_iconst (v := 0) X.1 X.2.1 dX6_init_452 (by decide) ?_
  refine lv_istore_n (i := 3) (lv' := [(3, .int 0), (0, va_rf (some o))]) X.1 X.2.1 dX6_init_453 rfl hl (by decide) rfl (fun ls hl => ?_)
  exact (b_X6_init_454 X FU) o 0 w _ _ _ _ _ hf M hS (by omega) (by omega) (lv_sub hl [1, 0] rfl)
def f_X6_init_420 (o : Nat) (y0 : Option Nat) (y1 : Int32) (w : Wd) : Option (Unit × Wd) := pI w y0 7 1 y1 (fun w405 => (f_X6_init_425 (f_X6_init_452) FU) o 0 w405)
set_option maxHeartbeats 4000000 in
set_option maxRecDepth 100000 in
theorem b_X6_init_420 {l : Launch} {D : va_G} {aC : Nat → ClassId} {b0 : Nat} {p : Program} {e : Env} {s : State} {m : MethodId} {args : Array Value} {below : List Frame} {meth : Method} {c : Code} (X : Cx D aC p s m args meth c cX6_init RX6 6 "<init>" none) {res : (Unit × Wd)} : ∀ (o : Nat) (y0 : Option Nat) (y1 : Int32) (w : Wd), BW l D aC b0 p e rX6_init s m args below meth c (Qe D aC b0 below args s 44 376290 none res.2) res 44 376290 0 0 (f_X6_init_420 o y0 y1 w) w 420 6 [(0, va_rf (some o))] [.int y1, va_rf y0] := by
  intro o y0 y1 w H locs cells slots ls hf M hS hc hs hl
  unfold f_X6_init_420 at hf
  have ho := pI_e hf
  clear hf
  obtain ⟨a404, w405, e406, k407, q408, hf⟩ := ho
  cases e406
  refine q_putI X M hS flX6_149 (Or.inr rfl) k407 dX6_init_420 (fun H locs M hS => ?_)
  rw [q408] at M
  refine lv_iconst (v := 0) X.1 X.2.1 dX6_init_423 (by decide) ?_
  refine lv_istore_n (i := 3) (lv' := [(3, .int 0), (0, va_rf (some o))]) X.1 X.2.1 dX6_init_424 rfl hl (by decide) rfl (fun ls hl => ?_)
  exact (b_X6_init_425 X (b_X6_init_452 X) FU) o 0 w405 _ _ _ _ _ hf M hS (by omega) (by omega) (lv_sub hl [1, 0] rfl)
def f_X6_init_418 (o : Nat) (y0 : Option Nat) (w : Wd) : Option (Unit × Wd) := (f_X6_init_420) o y0 50 w
set_option maxHeartbeats 4000000 in
set_option maxRecDepth 100000 in
theorem b_X6_init_418 {l : Launch} {D : va_G} {aC : Nat → ClassId} {b0 : Nat} {p : Program} {e : Env} {s : State} {m : MethodId} {args : Array Value} {below : List Frame} {meth : Method} {c : Code} (X : Cx D aC p s m args meth c cX6_init RX6 6 "<init>" none) {res : (Unit × Wd)} : ∀ (o : Nat) (y0 : Option Nat) (w : Wd), BW l D aC b0 p e rX6_init s m args below meth c (Qe D aC b0 below args s 44 376290 none res.2) res 44 376290 0 0 (f_X6_init_418 o y0 w) w 418 6 [(0, va_rf (some o))] [va_rf y0] := by
  intro o y0 w H locs cells slots ls hf M hS hc hs hl
  unfold f_X6_init_418 at hf
  refine lv_bipush (v := 50) X.1 X.2.1 dX6_init_418 (by decide) ?_
  exact (b_X6_init_420 X) o y0 50 w _ _ _ _ _ hf M hS (by omega) (by omega) (lv_sub hl [0] rfl)
def f_X6_init_398 (o : Nat) (x2 : Int32) (y0 : Option Nat) (y1 : Int32) (w : Wd) : Option (Unit × Wd) := pI w y0 7 0 y1 (fun w399 => if x2 < 1 then ((f_X6_init_418) o (some o) w399) else (if 1000 < x2 then ((f_X6_init_418) o (some o) w399) else ((f_X6_init_420) o (some o) x2 w399)))
set_option maxHeartbeats 4000000 in
set_option maxRecDepth 100000 in
theorem b_X6_init_398 {l : Launch} {D : va_G} {aC : Nat → ClassId} {b0 : Nat} {p : Program} {e : Env} {s : State} {m : MethodId} {args : Array Value} {below : List Frame} {meth : Method} {c : Code} (X : Cx D aC p s m args meth c cX6_init RX6 6 "<init>" none) {res : (Unit × Wd)} : ∀ (o : Nat) (x2 : Int32) (y0 : Option Nat) (y1 : Int32) (w : Wd), BW l D aC b0 p e rX6_init s m args below meth c (Qe D aC b0 below args s 44 376290 none res.2) res 44 376290 0 0 (f_X6_init_398 o x2 y0 y1 w) w 398 6 [(0, va_rf (some o)), (2, .int x2)] [.int y1, va_rf y0] := by
  intro o x2 y0 y1 w H locs cells slots ls hf M hS hc hs hl
  unfold f_X6_init_398 at hf
  have ho := pI_e hf
  clear hf
  obtain ⟨a398, w399, e400, k401, q402, hf⟩ := ho
  cases e400
  refine q_putI X M hS flX6_145 (Or.inr rfl) k401 dX6_init_398 (fun H locs M hS => ?_)
  rw [q402] at M
  refine q_aload_n X dX6_init_401 rfl (lv_at hl 0 rfl) ?_
  refine lv_iload_n X.1 X.2.1 dX6_init_402 rfl (lv_at hl 1 rfl) ?_
  refine lv_iconst (v := 1) X.1 X.2.1 dX6_init_403 (by decide) ?_
  refine lv_icmp_lt (tgt := 418) X.1 X.2.1 dX6_init_404 (by decide) (fun c403 => ?_) (fun c403 => ?_)
  · rw [if_pos c403] at hf
    exact (b_X6_init_418 X) o (some o) w399 _ _ _ _ _ hf M hS (by omega) (by omega) (lv_sub hl [0] rfl)
  · rw [if_neg c403] at hf
    refine lv_iload_n X.1 X.2.1 dX6_init_407 rfl (lv_at hl 1 rfl) ?_
    refine lv_sipush (v := 1000) X.1 X.2.1 dX6_init_408 (by decide) ?_
    refine lv_icmp_gt (tgt := 418) X.1 X.2.1 dX6_init_411 (by decide) (fun c494 => ?_) (fun c494 => ?_)
    · rw [if_pos c494] at hf
      exact (b_X6_init_418 X) o (some o) w399 _ _ _ _ _ hf M hS (by omega) (by omega) (lv_sub hl [0] rfl)
    · rw [if_neg c494] at hf
      refine lv_iload_n X.1 X.2.1 dX6_init_414 rfl (lv_at hl 1 rfl) ?_
      refine lv_goto (tgt := 420) X.1 X.2.1 dX6_init_415 (by decide) ?_
      exact (b_X6_init_420 X) o (some o) x2 w399 _ _ _ _ _ hf M hS (by omega) (by omega) (lv_sub hl [0] rfl)
def f_X6_init_397 (o : Nat) (x2 : Int32) (y0 : Option Nat) (w : Wd) : Option (Unit × Wd) := (f_X6_init_398) o x2 y0 3 w
set_option maxHeartbeats 4000000 in
set_option maxRecDepth 100000 in
theorem b_X6_init_397 {l : Launch} {D : va_G} {aC : Nat → ClassId} {b0 : Nat} {p : Program} {e : Env} {s : State} {m : MethodId} {args : Array Value} {below : List Frame} {meth : Method} {c : Code} (X : Cx D aC p s m args meth c cX6_init RX6 6 "<init>" none) {res : (Unit × Wd)} : ∀ (o : Nat) (x2 : Int32) (y0 : Option Nat) (w : Wd), BW l D aC b0 p e rX6_init s m args below meth c (Qe D aC b0 below args s 44 376290 none res.2) res 44 376290 0 0 (f_X6_init_397 o x2 y0 w) w 397 6 [(0, va_rf (some o)), (2, .int x2)] [va_rf y0] := by
  intro o x2 y0 w H locs cells slots ls hf M hS hc hs hl
  unfold f_X6_init_397 at hf
  refine lv_iconst (v := 3) X.1 X.2.1 dX6_init_397 (by decide) ?_
  exact (b_X6_init_398 X) o x2 y0 3 w _ _ _ _ _ hf M hS (by omega) (by omega) (lv_sub hl [0, 1] rfl)
def f_X6_init (o : Nat) (x1 : Int32) (x2 : Int32) (w : Wd) : Option (Unit × Wd) := nwA w 100 6 6 (fun w1 => pR w1 (some o) 7 7 (some (wn w)) (fun w6 => nwA w6 100 6 6 (fun w10 => pR w10 (some o) 7 8 (some (wn w6)) (fun w15 => nwA w15 100 6 6 (fun w19 => pR w19 (some o) 7 9 (some (wn w15)) (fun w24 => nwA w24 100 48 48 (fun w28 => pR w28 (some o) 7 10 (some (wn w24)) (fun w33 => nwA w33 100 360 360 (fun w37 => pR w37 (some o) 7 11 (some (wn w33)) (fun w42 => nwA w42 101 360 360 (fun w46 => pR w46 (some o) 7 12 (some (wn w42)) (fun w51 => nwA w51 100 360 360 (fun w55 => pR w55 (some o) 7 13 (some (wn w51)) (fun w60 => nwA w60 100 360 360 (fun w64 => pR w64 (some o) 7 14 (some (wn w60)) (fun w69 => nwA w69 101 360 360 (fun w73 => pR w73 (some o) 7 15 (some (wn w69)) (fun w78 => nwA w78 101 360 360 (fun w82 => pR w82 (some o) 7 16 (some (wn w78)) (fun w87 => nwA w87 100 64 64 (fun w91 => pR w91 (some o) 7 17 (some (wn w87)) (fun w96 => nwA w96 100 64 64 (fun w100 => pR w100 (some o) 7 18 (some (wn w96)) (fun w105 => nwA w105 100 64 64 (fun w109 => pR w109 (some o) 7 19 (some (wn w105)) (fun w114 => nwA w114 101 256 256 (fun w118 => pR w118 (some o) 7 20 (some (wn w114)) (fun w123 => nwA w123 100 64 64 (fun w127 => pR w127 (some o) 7 21 (some (wn w123)) (fun w132 => nwA w132 100 768 768 (fun w136 => pR w136 (some o) 7 22 (some (wn w132)) (fun w141 => nwA w141 100 768 768 (fun w145 => pR w145 (some o) 7 23 (some (wn w141)) (fun w150 => nwA w150 100 768 768 (fun w154 => pR w154 (some o) 7 24 (some (wn w150)) (fun w159 => nwA w159 101 768 768 (fun w163 => pR w163 (some o) 7 25 (some (wn w159)) (fun w168 => nwA w168 100 384 384 (fun w172 => pR w172 (some o) 7 26 (some (wn w168)) (fun w177 => nwA w177 100 384 384 (fun w181 => pR w181 (some o) 7 27 (some (wn w177)) (fun w186 => nwA w186 102 4 4 (fun w190 => pR w190 (some o) 7 28 (some (wn w186)) (fun w195 => nwA w195 102 4 4 (fun w199 => pR w199 (some o) 7 29 (some (wn w195)) (fun w204 => nwA w204 102 4700 4700 (fun w208 => pR w208 (some o) 7 30 (some (wn w204)) (fun w213 => nwA w213 100 4700 4700 (fun w217 => pR w217 (some o) 7 31 (some (wn w213)) (fun w222 => nwA w222 100 4700 4700 (fun w226 => pR w226 (some o) 7 32 (some (wn w222)) (fun w231 => nwA w231 100 4700 4700 (fun w235 => pR w235 (some o) 7 33 (some (wn w231)) (fun w240 => nwA w240 100 4700 4700 (fun w244 => pR w244 (some o) 7 34 (some (wn w240)) (fun w249 => nwA w249 100 4700 4700 (fun w253 => pR w253 (some o) 7 35 (some (wn w249)) (fun w258 => nwA w258 100 4700 4700 (fun w262 => pR w262 (some o) 7 36 (some (wn w258)) (fun w267 => nwA w267 100 4700 4700 (fun w271 => pR w271 (some o) 7 37 (some (wn w267)) (fun w276 => nwA w276 100 4700 4700 (fun w280 => pR w280 (some o) 7 38 (some (wn w276)) (fun w285 => nwA w285 101 4700 4700 (fun w289 => pR w289 (some o) 7 39 (some (wn w285)) (fun w294 => nwA w294 101 4700 4700 (fun w298 => pR w298 (some o) 7 40 (some (wn w294)) (fun w303 => nwA w303 101 18800 18800 (fun w307 => pR w307 (some o) 7 41 (some (wn w303)) (fun w312 => nwA w312 100 56400 56400 (fun w316 => pR w316 (some o) 7 42 (some (wn w312)) (fun w321 => nwA w321 100 56400 56400 (fun w325 => pR w325 (some o) 7 43 (some (wn w321)) (fun w330 => nwA w330 100 56400 56400 (fun w334 => pR w334 (some o) 7 44 (some (wn w330)) (fun w339 => nwA w339 101 56400 56400 (fun w343 => pR w343 (some o) 7 45 (some (wn w339)) (fun w348 => nwA w348 100 28200 28200 (fun w352 => pR w352 (some o) 7 46 (some (wn w348)) (fun w357 => nwA w357 100 28200 28200 (fun w361 => pR w361 (some o) 7 47 (some (wn w357)) (fun w366 => nwA w366 100 400 400 (fun w370 => pR w370 (some o) 7 49 (some (wn w366)) (fun w375 => nwA w375 100 16800 16800 (fun w379 => pR w379 (some o) 7 51 (some (wn w375)) (fun w384 => nwA w384 100 4 4 (fun w388 => pR w388 (some o) 7 52 (some (wn w384)) (fun w393 => if x1 < 2 then ((f_X6_init_397) o x2 (some o) w393) else (if 4 < x1 then ((f_X6_init_397) o x2 (some o) w393) else ((f_X6_init_398) o x2 (some o) x1 w393))))))))))))))))))))))))))))))))))))))))))))))))))))))))))))))))))))))))))))))))))))))))))
set_option maxHeartbeats 4000000 in
set_option maxRecDepth 100000 in
theorem e_X6_init {l : Launch} {D : va_G} {aC : Nat → ClassId} {b0 : Nat} {p : Program} {e : Env} {s : State} {m : MethodId} {args : Array Value} {below : List Frame} {meth : Method} {c : Code} (X : Cx D aC p s m args meth c cX6_init RX6 6 "<init>" none) {res : (Unit × Wd)} (o : Nat) (x1 : Int32) (x2 : Int32) (w : Wd) : BW l D aC b0 p e rX6_init s m args below meth c (Qe D aC b0 below args s 44 376290 none res.2) res 44 376290 44 376290 (f_X6_init o x1 x2 w) w 0 6 [(0, va_rf (some o)), (1, .int x1), (2, .int x2)] [] := by
  intro H locs cells slots ls hf M hS hc hs hl
  unfold f_X6_init at hf
  refine q_aload_n X dX6_init_0 rfl (lv_at hl 0 rfl) ?_
  refine q_obj X hl.1 gm_99 (Nat.le_of_ble_eq_true rfl) (Nat.le_of_ble_eq_true rfl) dX6_init_1 ?_
  refine q_aload_n X dX6_init_4 rfl (lv_at hl 0 rfl) ?_
  refine lv_bipush (v := 6) X.1 X.2.1 dX6_init_5 (by decide) ?_
  have ho := nwA_e hf
  clear hf
  obtain ⟨w1, z2, z3, q4, hf⟩ := ho
  refine q_newa X M hS (t := 0) (Or.inl ⟨rfl, rfl⟩) gm_63 z2 (bd := 6) z3 (by decide) (MC := 44) (MS := 376290) rfl rfl (by omega) (by omega) dX6_init_7 (fun H M hS => ?_)
  rw [q4] at M
  have ho := pR_e hf
  clear hf
  obtain ⟨a5, w6, e7, k8, q9, hf⟩ := ho
  cases e7
  refine q_putR X M hS flX6_7 (Or.inr rfl) k8 dX6_init_9 (fun H locs M hS => ?_)
  rw [q9] at M
  refine q_aload_n X dX6_init_12 rfl (lv_at hl 0 rfl) ?_
  refine lv_bipush (v := 6) X.1 X.2.1 dX6_init_13 (by decide) ?_
  have ho := nwA_e hf
  clear hf
  obtain ⟨w10, z11, z12, q13, hf⟩ := ho
  refine q_newa X M hS (t := 0) (Or.inl ⟨rfl, rfl⟩) gm_63 z11 (bd := 6) z12 (by decide) (MC := 44) (MS := 376290) rfl rfl (by omega) (by omega) dX6_init_15 (fun H M hS => ?_)
  rw [q13] at M
  have ho := pR_e hf
  clear hf
  obtain ⟨a14, w15, e16, k17, q18, hf⟩ := ho
  cases e16
  refine q_putR X M hS flX6_13 (Or.inr rfl) k17 dX6_init_17 (fun H locs M hS => ?_)
  rw [q18] at M
  refine q_aload_n X dX6_init_20 rfl (lv_at hl 0 rfl) ?_
  refine lv_bipush (v := 6) X.1 X.2.1 dX6_init_21 (by decide) ?_
  have ho := nwA_e hf
  clear hf
  obtain ⟨w19, z20, z21, q22, hf⟩ := ho
  refine q_newa X M hS (t := 0) (Or.inl ⟨rfl, rfl⟩) gm_63 z20 (bd := 6) z21 (by decide) (MC := 44) (MS := 376290) rfl rfl (by omega) (by omega) dX6_init_23 (fun H M hS => ?_)
  rw [q22] at M
  have ho := pR_e hf
  clear hf
  obtain ⟨a23, w24, e25, k26, q27, hf⟩ := ho
  cases e25
  refine q_putR X M hS flX6_16 (Or.inr rfl) k26 dX6_init_25 (fun H locs M hS => ?_)
  rw [q27] at M
  refine q_aload_n X dX6_init_28 rfl (lv_at hl 0 rfl) ?_
  refine lv_bipush (v := 48) X.1 X.2.1 dX6_init_29 (by decide) ?_
  have ho := nwA_e hf
  clear hf
  obtain ⟨w28, z29, z30, q31, hf⟩ := ho
  refine q_newa X M hS (t := 0) (Or.inl ⟨rfl, rfl⟩) gm_63 z29 (bd := 48) z30 (by decide) (MC := 44) (MS := 376290) rfl rfl (by omega) (by omega) dX6_init_31 (fun H M hS => ?_)
  rw [q31] at M
  have ho := pR_e hf
  clear hf
  obtain ⟨a32, w33, e34, k35, q36, hf⟩ := ho
  cases e34
  refine q_putR X M hS flX6_19 (Or.inr rfl) k35 dX6_init_33 (fun H locs M hS => ?_)
  rw [q36] at M
  refine q_aload_n X dX6_init_36 rfl (lv_at hl 0 rfl) ?_
  refine lv_sipush (v := 360) X.1 X.2.1 dX6_init_37 (by decide) ?_
  have ho := nwA_e hf
  clear hf
  obtain ⟨w37, z38, z39, q40, hf⟩ := ho
  refine q_newa X M hS (t := 0) (Or.inl ⟨rfl, rfl⟩) gm_63 z38 (bd := 360) z39 (by decide) (MC := 44) (MS := 376290) rfl rfl (by omega) (by omega) dX6_init_40 (fun H M hS => ?_)
  rw [q40] at M
  have ho := pR_e hf
  clear hf
  obtain ⟨a41, w42, e43, k44, q45, hf⟩ := ho
  cases e43
  refine q_putR X M hS flX6_22 (Or.inr rfl) k44 dX6_init_42 (fun H locs M hS => ?_)
  rw [q45] at M
  refine q_aload_n X dX6_init_45 rfl (lv_at hl 0 rfl) ?_
  refine lv_sipush (v := 360) X.1 X.2.1 dX6_init_46 (by decide) ?_
  have ho := nwA_e hf
  clear hf
  obtain ⟨w46, z47, z48, q49, hf⟩ := ho
  refine q_newa X M hS (t := 1) (Or.inr (Or.inl ⟨rfl, rfl⟩)) gm_61 z47 (bd := 360) z48 (by decide) (MC := 44) (MS := 376290) rfl rfl (by omega) (by omega) dX6_init_49 (fun H M hS => ?_)
  rw [q49] at M
  have ho := pR_e hf
  clear hf
  obtain ⟨a50, w51, e52, k53, q54, hf⟩ := ho
  cases e52
  refine q_putR X M hS flX6_25 (Or.inr rfl) k53 dX6_init_51 (fun H locs M hS => ?_)
  rw [q54] at M
  refine q_aload_n X dX6_init_54 rfl (lv_at hl 0 rfl) ?_
  refine lv_sipush (v := 360) X.1 X.2.1 dX6_init_55 (by decide) ?_
  have ho := nwA_e hf
  clear hf
  obtain ⟨w55, z56, z57, q58, hf⟩ := ho
  refine q_newa X M hS (t := 0) (Or.inl ⟨rfl, rfl⟩) gm_63 z56 (bd := 360) z57 (by decide) (MC := 44) (MS := 376290) rfl rfl (by omega) (by omega) dX6_init_58 (fun H M hS => ?_)
  rw [q58] at M
  have ho := pR_e hf
  clear hf
  obtain ⟨a59, w60, e61, k62, q63, hf⟩ := ho
  cases e61
  refine q_putR X M hS flX6_29 (Or.inr rfl) k62 dX6_init_60 (fun H locs M hS => ?_)
  rw [q63] at M
  refine q_aload_n X dX6_init_63 rfl (lv_at hl 0 rfl) ?_
  refine lv_sipush (v := 360) X.1 X.2.1 dX6_init_64 (by decide) ?_
  have ho := nwA_e hf
  clear hf
  obtain ⟨w64, z65, z66, q67, hf⟩ := ho
  refine q_newa X M hS (t := 0) (Or.inl ⟨rfl, rfl⟩) gm_63 z65 (bd := 360) z66 (by decide) (MC := 44) (MS := 376290) rfl rfl (by omega) (by omega) dX6_init_67 (fun H M hS => ?_)
  rw [q67] at M
  have ho := pR_e hf
  clear hf
  obtain ⟨a68, w69, e70, k71, q72, hf⟩ := ho
  cases e70
  refine q_putR X M hS flX6_32 (Or.inr rfl) k71 dX6_init_69 (fun H locs M hS => ?_)
  rw [q72] at M
  refine q_aload_n X dX6_init_72 rfl (lv_at hl 0 rfl) ?_
  refine lv_sipush (v := 360) X.1 X.2.1 dX6_init_73 (by decide) ?_
  have ho := nwA_e hf
  clear hf
  obtain ⟨w73, z74, z75, q76, hf⟩ := ho
  refine q_newa X M hS (t := 1) (Or.inr (Or.inl ⟨rfl, rfl⟩)) gm_61 z74 (bd := 360) z75 (by decide) (MC := 44) (MS := 376290) rfl rfl (by omega) (by omega) dX6_init_76 (fun H M hS => ?_)
  rw [q76] at M
  have ho := pR_e hf
  clear hf
  obtain ⟨a77, w78, e79, k80, q81, hf⟩ := ho
  cases e79
  refine q_putR X M hS flX6_35 (Or.inr rfl) k80 dX6_init_78 (fun H locs M hS => ?_)
  rw [q81] at M
  refine q_aload_n X dX6_init_81 rfl (lv_at hl 0 rfl) ?_
  refine lv_sipush (v := 360) X.1 X.2.1 dX6_init_82 (by decide) ?_
  have ho := nwA_e hf
  clear hf
  obtain ⟨w82, z83, z84, q85, hf⟩ := ho
  refine q_newa X M hS (t := 1) (Or.inr (Or.inl ⟨rfl, rfl⟩)) gm_61 z83 (bd := 360) z84 (by decide) (MC := 44) (MS := 376290) rfl rfl (by omega) (by omega) dX6_init_85 (fun H M hS => ?_)
  rw [q85] at M
  have ho := pR_e hf
  clear hf
  obtain ⟨a86, w87, e88, k89, q90, hf⟩ := ho
  cases e88
  refine q_putR X M hS flX6_38 (Or.inr rfl) k89 dX6_init_87 (fun H locs M hS => ?_)
  rw [q90] at M
  refine q_aload_n X dX6_init_90 rfl (lv_at hl 0 rfl) ?_
  refine lv_bipush (v := 64) X.1 X.2.1 dX6_init_91 (by decide) ?_
  have ho := nwA_e hf
  clear hf
  obtain ⟨w91, z92, z93, q94, hf⟩ := ho
  refine q_newa X M hS (t := 0) (Or.inl ⟨rfl, rfl⟩) gm_63 z92 (bd := 64) z93 (by decide) (MC := 44) (MS := 376290) rfl rfl (by omega) (by omega) dX6_init_93 (fun H M hS => ?_)
  rw [q94] at M
  have ho := pR_e hf
  clear hf
  obtain ⟨a95, w96, e97, k98, q99, hf⟩ := ho
  cases e97
  refine q_putR X M hS flX6_41 (Or.inr rfl) k98 dX6_init_95 (fun H locs M hS => ?_)
  rw [q99] at M
  refine q_aload_n X dX6_init_98 rfl (lv_at hl 0 rfl) ?_
  refine lv_bipush (v := 64) X.1 X.2.1 dX6_init_99 (by decide) ?_
  have ho := nwA_e hf
  clear hf
  obtain ⟨w100, z101, z102, q103, hf⟩ := ho
  refine q_newa X M hS (t := 0) (Or.inl ⟨rfl, rfl⟩) gm_63 z101 (bd := 64) z102 (by decide) (MC := 44) (MS := 376290) rfl rfl (by omega) (by omega) dX6_init_101 (fun H M hS => ?_)
  rw [q103] at M
  have ho := pR_e hf
  clear hf
  obtain ⟨a104, w105, e106, k107, q108, hf⟩ := ho
  cases e106
  refine q_putR X M hS flX6_44 (Or.inr rfl) k107 dX6_init_103 (fun H locs M hS => ?_)
  rw [q108] at M
  refine q_aload_n X dX6_init_106 rfl (lv_at hl 0 rfl) ?_
  refine lv_bipush (v := 64) X.1 X.2.1 dX6_init_107 (by decide) ?_
  have ho := nwA_e hf
  clear hf
  obtain ⟨w109, z110, z111, q112, hf⟩ := ho
  refine q_newa X M hS (t := 0) (Or.inl ⟨rfl, rfl⟩) gm_63 z110 (bd := 64) z111 (by decide) (MC := 44) (MS := 376290) rfl rfl (by omega) (by omega) dX6_init_109 (fun H M hS => ?_)
  rw [q112] at M
  have ho := pR_e hf
  clear hf
  obtain ⟨a113, w114, e115, k116, q117, hf⟩ := ho
  cases e115
  refine q_putR X M hS flX6_47 (Or.inr rfl) k116 dX6_init_111 (fun H locs M hS => ?_)
  rw [q117] at M
  refine q_aload_n X dX6_init_114 rfl (lv_at hl 0 rfl) ?_
  refine lv_sipush (v := 256) X.1 X.2.1 dX6_init_115 (by decide) ?_
  have ho := nwA_e hf
  clear hf
  obtain ⟨w118, z119, z120, q121, hf⟩ := ho
  refine q_newa X M hS (t := 1) (Or.inr (Or.inl ⟨rfl, rfl⟩)) gm_61 z119 (bd := 256) z120 (by decide) (MC := 44) (MS := 376290) rfl rfl (by omega) (by omega) dX6_init_118 (fun H M hS => ?_)
  rw [q121] at M
  have ho := pR_e hf
  clear hf
  obtain ⟨a122, w123, e124, k125, q126, hf⟩ := ho
  cases e124
  refine q_putR X M hS flX6_50 (Or.inr rfl) k125 dX6_init_120 (fun H locs M hS => ?_)
  rw [q126] at M
  refine q_aload_n X dX6_init_123 rfl (lv_at hl 0 rfl) ?_
  refine lv_bipush (v := 64) X.1 X.2.1 dX6_init_124 (by decide) ?_
  have ho := nwA_e hf
  clear hf
  obtain ⟨w127, z128, z129, q130, hf⟩ := ho
  refine q_newa X M hS (t := 0) (Or.inl ⟨rfl, rfl⟩) gm_63 z128 (bd := 64) z129 (by decide) (MC := 44) (MS := 376290) rfl rfl (by omega) (by omega) dX6_init_126 (fun H M hS => ?_)
  rw [q130] at M
  have ho := pR_e hf
  clear hf
  obtain ⟨a131, w132, e133, k134, q135, hf⟩ := ho
  cases e133
  refine q_putR X M hS flX6_53 (Or.inr rfl) k134 dX6_init_128 (fun H locs M hS => ?_)
  rw [q135] at M
  refine q_aload_n X dX6_init_131 rfl (lv_at hl 0 rfl) ?_
  refine lv_sipush (v := 768) X.1 X.2.1 dX6_init_132 (by decide) ?_
  have ho := nwA_e hf
  clear hf
  obtain ⟨w136, z137, z138, q139, hf⟩ := ho
  refine q_newa X M hS (t := 0) (Or.inl ⟨rfl, rfl⟩) gm_63 z137 (bd := 768) z138 (by decide) (MC := 44) (MS := 376290) rfl rfl (by omega) (by omega) dX6_init_135 (fun H M hS => ?_)
  rw [q139] at M
  have ho := pR_e hf
  clear hf
  obtain ⟨a140, w141, e142, k143, q144, hf⟩ := ho
  cases e142
  refine q_putR X M hS flX6_56 (Or.inr rfl) k143 dX6_init_137 (fun H locs M hS => ?_)
  rw [q144] at M
  refine q_aload_n X dX6_init_140 rfl (lv_at hl 0 rfl) ?_
  refine lv_sipush (v := 768) X.1 X.2.1 dX6_init_141 (by decide) ?_
  have ho := nwA_e hf
  clear hf
  obtain ⟨w145, z146, z147, q148, hf⟩ := ho
  refine q_newa X M hS (t := 0) (Or.inl ⟨rfl, rfl⟩) gm_63 z146 (bd := 768) z147 (by decide) (MC := 44) (MS := 376290) rfl rfl (by omega) (by omega) dX6_init_144 (fun H M hS => ?_)
  rw [q148] at M
  have ho := pR_e hf
  clear hf
  obtain ⟨a149, w150, e151, k152, q153, hf⟩ := ho
  cases e151
  refine q_putR X M hS flX6_59 (Or.inr rfl) k152 dX6_init_146 (fun H locs M hS => ?_)
  rw [q153] at M
  refine q_aload_n X dX6_init_149 rfl (lv_at hl 0 rfl) ?_
  refine lv_sipush (v := 768) X.1 X.2.1 dX6_init_150 (by decide) ?_
  have ho := nwA_e hf
  clear hf
  obtain ⟨w154, z155, z156, q157, hf⟩ := ho
  refine q_newa X M hS (t := 0) (Or.inl ⟨rfl, rfl⟩) gm_63 z155 (bd := 768) z156 (by decide) (MC := 44) (MS := 376290) rfl rfl (by omega) (by omega) dX6_init_153 (fun H M hS => ?_)
  rw [q157] at M
  have ho := pR_e hf
  clear hf
  obtain ⟨a158, w159, e160, k161, q162, hf⟩ := ho
  cases e160
  refine q_putR X M hS flX6_62 (Or.inr rfl) k161 dX6_init_155 (fun H locs M hS => ?_)
  rw [q162] at M
  refine q_aload_n X dX6_init_158 rfl (lv_at hl 0 rfl) ?_
  refine lv_sipush (v := 768) X.1 X.2.1 dX6_init_159 (by decide) ?_
  have ho := nwA_e hf
  clear hf
  obtain ⟨w163, z164, z165, q166, hf⟩ := ho
  refine q_newa X M hS (t := 1) (Or.inr (Or.inl ⟨rfl, rfl⟩)) gm_61 z164 (bd := 768) z165 (by decide) (MC := 44) (MS := 376290) rfl rfl (by omega) (by omega) dX6_init_162 (fun H M hS => ?_)
  rw [q166] at M
  have ho := pR_e hf
  clear hf
  obtain ⟨a167, w168, e169, k170, q171, hf⟩ := ho
  cases e169
  refine q_putR X M hS flX6_65 (Or.inr rfl) k170 dX6_init_164 (fun H locs M hS => ?_)
  rw [q171] at M
  refine q_aload_n X dX6_init_167 rfl (lv_at hl 0 rfl) ?_
  refine lv_sipush (v := 384) X.1 X.2.1 dX6_init_168 (by decide) ?_
  have ho := nwA_e hf
  clear hf
  obtain ⟨w172, z173, z174, q175, hf⟩ := ho
  refine q_newa X M hS (t := 0) (Or.inl ⟨rfl, rfl⟩) gm_63 z173 (bd := 384) z174 (by decide) (MC := 44) (MS := 376290) rfl rfl (by omega) (by omega) dX6_init_171 (fun H M hS => ?_)
  rw [q175] at M
  have ho := pR_e hf
  clear hf
  obtain ⟨a176, w177, e178, k179, q180, hf⟩ := ho
  cases e178
  refine q_putR X M hS flX6_68 (Or.inr rfl) k179 dX6_init_173 (fun H locs M hS => ?_)
  rw [q180] at M
  refine q_aload_n X dX6_init_176 rfl (lv_at hl 0 rfl) ?_
  refine lv_sipush (v := 384) X.1 X.2.1 dX6_init_177 (by decide) ?_
  have ho := nwA_e hf
  clear hf
  obtain ⟨w181, z182, z183, q184, hf⟩ := ho
  refine q_newa X M hS (t := 0) (Or.inl ⟨rfl, rfl⟩) gm_63 z182 (bd := 384) z183 (by decide) (MC := 44) (MS := 376290) rfl rfl (by omega) (by omega) dX6_init_180 (fun H M hS => ?_)
  rw [q184] at M
  have ho := pR_e hf
  clear hf
  obtain ⟨a185, w186, e187, k188, q189, hf⟩ := ho
  cases e187
  refine q_putR X M hS flX6_71 (Or.inr rfl) k188 dX6_init_182 (fun H locs M hS => ?_)
  rw [q189] at M
  refine q_aload_n X dX6_init_185 rfl (lv_at hl 0 rfl) ?_
  refine lv_iconst (v := 4) X.1 X.2.1 dX6_init_186 (by decide) ?_
  have ho := nwA_e hf
  clear hf
  obtain ⟨w190, z191, z192, q193, hf⟩ := ho
  refine q_newa X M hS (t := 2) (Or.inr (Or.inr ⟨rfl, rfl⟩)) gm_121 z191 (bd := 4) z192 (by decide) (MC := 44) (MS := 376290) rfl rfl (by omega) (by omega) dX6_init_187 (fun H M hS => ?_)
  rw [q193] at M
  have ho := pR_e hf
  clear hf
  obtain ⟨a194, w195, e196, k197, q198, hf⟩ := ho
  cases e196
  refine q_putR X M hS flX6_74 (Or.inr rfl) k197 dX6_init_189 (fun H locs M hS => ?_)
  rw [q198] at M
  refine q_aload_n X dX6_init_192 rfl (lv_at hl 0 rfl) ?_
  refine lv_iconst (v := 4) X.1 X.2.1 dX6_init_193 (by decide) ?_
  have ho := nwA_e hf
  clear hf
  obtain ⟨w199, z200, z201, q202, hf⟩ := ho
  refine q_newa X M hS (t := 2) (Or.inr (Or.inr ⟨rfl, rfl⟩)) gm_121 z200 (bd := 4) z201 (by decide) (MC := 44) (MS := 376290) rfl rfl (by omega) (by omega) dX6_init_194 (fun H M hS => ?_)
  rw [q202] at M
  have ho := pR_e hf
  clear hf
  obtain ⟨a203, w204, e205, k206, q207, hf⟩ := ho
  cases e205
  refine q_putR X M hS flX6_78 (Or.inr rfl) k206 dX6_init_196 (fun H locs M hS => ?_)
  rw [q207] at M
  refine q_aload_n X dX6_init_199 rfl (lv_at hl 0 rfl) ?_
  refine lv_sipush (v := 4700) X.1 X.2.1 dX6_init_200 (by decide) ?_
  have ho := nwA_e hf
  clear hf
  obtain ⟨w208, z209, z210, q211, hf⟩ := ho
  refine q_newa X M hS (t := 2) (Or.inr (Or.inr ⟨rfl, rfl⟩)) gm_121 z209 (bd := 4700) z210 (by decide) (MC := 44) (MS := 376290) rfl rfl (by omega) (by omega) dX6_init_203 (fun H M hS => ?_)
  rw [q211] at M
  have ho := pR_e hf
  clear hf
  obtain ⟨a212, w213, e214, k215, q216, hf⟩ := ho
  cases e214
  refine q_putR X M hS flX6_81 (Or.inr rfl) k215 dX6_init_205 (fun H locs M hS => ?_)
  rw [q216] at M
  refine q_aload_n X dX6_init_208 rfl (lv_at hl 0 rfl) ?_
  refine lv_sipush (v := 4700) X.1 X.2.1 dX6_init_209 (by decide) ?_
  have ho := nwA_e hf
  clear hf
  obtain ⟨w217, z218, z219, q220, hf⟩ := ho
  refine q_newa X M hS (t := 0) (Or.inl ⟨rfl, rfl⟩) gm_63 z218 (bd := 4700) z219 (by decide) (MC := 44) (MS := 376290) rfl rfl (by omega) (by omega) dX6_init_212 (fun H M hS => ?_)
  rw [q220] at M
  have ho := pR_e hf
  clear hf
  obtain ⟨a221, w222, e223, k224, q225, hf⟩ := ho
  cases e223
  refine q_putR X M hS flX6_84 (Or.inr rfl) k224 dX6_init_214 (fun H locs M hS => ?_)
  rw [q225] at M
  refine q_aload_n X dX6_init_217 rfl (lv_at hl 0 rfl) ?_
  refine lv_sipush (v := 4700) X.1 X.2.1 dX6_init_218 (by decide) ?_
  have ho := nwA_e hf
  clear hf
  obtain ⟨w226, z227, z228, q229, hf⟩ := ho
  refine q_newa X M hS (t := 0) (Or.inl ⟨rfl, rfl⟩) gm_63 z227 (bd := 4700) z228 (by decide) (MC := 44) (MS := 376290) rfl rfl (by omega) (by omega) dX6_init_221 (fun H M hS => ?_)
  rw [q229] at M
  have ho := pR_e hf
  clear hf
  obtain ⟨a230, w231, e232, k233, q234, hf⟩ := ho
  cases e232
  refine q_putR X M hS flX6_87 (Or.inr rfl) k233 dX6_init_223 (fun H locs M hS => ?_)
  rw [q234] at M
  refine q_aload_n X dX6_init_226 rfl (lv_at hl 0 rfl) ?_
  refine lv_sipush (v := 4700) X.1 X.2.1 dX6_init_227 (by decide) ?_
  have ho := nwA_e hf
  clear hf
  obtain ⟨w235, z236, z237, q238, hf⟩ := ho
  refine q_newa X M hS (t := 0) (Or.inl ⟨rfl, rfl⟩) gm_63 z236 (bd := 4700) z237 (by decide) (MC := 44) (MS := 376290) rfl rfl (by omega) (by omega) dX6_init_230 (fun H M hS => ?_)
  rw [q238] at M
  have ho := pR_e hf
  clear hf
  obtain ⟨a239, w240, e241, k242, q243, hf⟩ := ho
  cases e241
  refine q_putR X M hS flX6_90 (Or.inr rfl) k242 dX6_init_232 (fun H locs M hS => ?_)
  rw [q243] at M
  refine q_aload_n X dX6_init_235 rfl (lv_at hl 0 rfl) ?_
  refine lv_sipush (v := 4700) X.1 X.2.1 dX6_init_236 (by decide) ?_
  have ho := nwA_e hf
  clear hf
  obtain ⟨w244, z245, z246, q247, hf⟩ := ho
  refine q_newa X M hS (t := 0) (Or.inl ⟨rfl, rfl⟩) gm_63 z245 (bd := 4700) z246 (by decide) (MC := 44) (MS := 376290) rfl rfl (by omega) (by omega) dX6_init_239 (fun H M hS => ?_)
  rw [q247] at M
  have ho := pR_e hf
  clear hf
  obtain ⟨a248, w249, e250, k251, q252, hf⟩ := ho
  cases e250
  refine q_putR X M hS flX6_93 (Or.inr rfl) k251 dX6_init_241 (fun H locs M hS => ?_)
  rw [q252] at M
  refine q_aload_n X dX6_init_244 rfl (lv_at hl 0 rfl) ?_
  refine lv_sipush (v := 4700) X.1 X.2.1 dX6_init_245 (by decide) ?_
  have ho := nwA_e hf
  clear hf
  obtain ⟨w253, z254, z255, q256, hf⟩ := ho
  refine q_newa X M hS (t := 0) (Or.inl ⟨rfl, rfl⟩) gm_63 z254 (bd := 4700) z255 (by decide) (MC := 44) (MS := 376290) rfl rfl (by omega) (by omega) dX6_init_248 (fun H M hS => ?_)
  rw [q256] at M
  have ho := pR_e hf
  clear hf
  obtain ⟨a257, w258, e259, k260, q261, hf⟩ := ho
  cases e259
  refine q_putR X M hS flX6_96 (Or.inr rfl) k260 dX6_init_250 (fun H locs M hS => ?_)
  rw [q261] at M
  refine q_aload_n X dX6_init_253 rfl (lv_at hl 0 rfl) ?_
  refine lv_sipush (v := 4700) X.1 X.2.1 dX6_init_254 (by decide) ?_
  have ho := nwA_e hf
  clear hf
  obtain ⟨w262, z263, z264, q265, hf⟩ := ho
  refine q_newa X M hS (t := 0) (Or.inl ⟨rfl, rfl⟩) gm_63 z263 (bd := 4700) z264 (by decide) (MC := 44) (MS := 376290) rfl rfl (by omega) (by omega) dX6_init_257 (fun H M hS => ?_)
  rw [q265] at M
  have ho := pR_e hf
  clear hf
  obtain ⟨a266, w267, e268, k269, q270, hf⟩ := ho
  cases e268
  refine q_putR X M hS flX6_99 (Or.inr rfl) k269 dX6_init_259 (fun H locs M hS => ?_)
  rw [q270] at M
  refine q_aload_n X dX6_init_262 rfl (lv_at hl 0 rfl) ?_
  refine lv_sipush (v := 4700) X.1 X.2.1 dX6_init_263 (by decide) ?_
  have ho := nwA_e hf
  clear hf
  obtain ⟨w271, z272, z273, q274, hf⟩ := ho
  refine q_newa X M hS (t := 0) (Or.inl ⟨rfl, rfl⟩) gm_63 z272 (bd := 4700) z273 (by decide) (MC := 44) (MS := 376290) rfl rfl (by omega) (by omega) dX6_init_266 (fun H M hS => ?_)
  rw [q274] at M
  have ho := pR_e hf
  clear hf
  obtain ⟨a275, w276, e277, k278, q279, hf⟩ := ho
  cases e277
  refine q_putR X M hS flX6_102 (Or.inr rfl) k278 dX6_init_268 (fun H locs M hS => ?_)
  rw [q279] at M
  refine q_aload_n X dX6_init_271 rfl (lv_at hl 0 rfl) ?_
  refine lv_sipush (v := 4700) X.1 X.2.1 dX6_init_272 (by decide) ?_
  have ho := nwA_e hf
  clear hf
  obtain ⟨w280, z281, z282, q283, hf⟩ := ho
  refine q_newa X M hS (t := 0) (Or.inl ⟨rfl, rfl⟩) gm_63 z281 (bd := 4700) z282 (by decide) (MC := 44) (MS := 376290) rfl rfl (by omega) (by omega) dX6_init_275 (fun H M hS => ?_)
  rw [q283] at M
  have ho := pR_e hf
  clear hf
  obtain ⟨a284, w285, e286, k287, q288, hf⟩ := ho
  cases e286
  refine q_putR X M hS flX6_105 (Or.inr rfl) k287 dX6_init_277 (fun H locs M hS => ?_)
  rw [q288] at M
  refine q_aload_n X dX6_init_280 rfl (lv_at hl 0 rfl) ?_
  refine lv_sipush (v := 4700) X.1 X.2.1 dX6_init_281 (by decide) ?_
  have ho := nwA_e hf
  clear hf
  obtain ⟨w289, z290, z291, q292, hf⟩ := ho
  refine q_newa X M hS (t := 1) (Or.inr (Or.inl ⟨rfl, rfl⟩)) gm_61 z290 (bd := 4700) z291 (by decide) (MC := 44) (MS := 376290) rfl rfl (by omega) (by omega) dX6_init_284 (fun H M hS => ?_)
  rw [q292] at M
  have ho := pR_e hf
  clear hf
  obtain ⟨a293, w294, e295, k296, q297, hf⟩ := ho
  cases e295
  refine q_putR X M hS flX6_108 (Or.inr rfl) k296 dX6_init_286 (fun H locs M hS => ?_)
  rw [q297] at M
  refine q_aload_n X dX6_init_289 rfl (lv_at hl 0 rfl) ?_
  refine lv_sipush (v := 4700) X.1 X.2.1 dX6_init_290 (by decide) ?_
  have ho := nwA_e hf
  clear hf
  obtain ⟨w298, z299, z300, q301, hf⟩ := ho
  refine q_newa X M hS (t := 1) (Or.inr (Or.inl ⟨rfl, rfl⟩)) gm_61 z299 (bd := 4700) z300 (by decide) (MC := 44) (MS := 376290) rfl rfl (by omega) (by omega) dX6_init_293 (fun H M hS => ?_)
  rw [q301] at M
  have ho := pR_e hf
  clear hf
  obtain ⟨a302, w303, e304, k305, q306, hf⟩ := ho
  cases e304
  refine q_putR X M hS flX6_111 (Or.inr rfl) k305 dX6_init_295 (fun H locs M hS => ?_)
  rw [q306] at M
  refine q_aload_n X dX6_init_298 rfl (lv_at hl 0 rfl) ?_
  refine lv_sipush (v := 18800) X.1 X.2.1 dX6_init_299 (by decide) ?_
  have ho := nwA_e hf
  clear hf
  obtain ⟨w307, z308, z309, q310, hf⟩ := ho
  refine q_newa X M hS (t := 1) (Or.inr (Or.inl ⟨rfl, rfl⟩)) gm_61 z308 (bd := 18800) z309 (by decide) (MC := 44) (MS := 376290) rfl rfl (by omega) (by omega) dX6_init_302 (fun H M hS => ?_)
  rw [q310] at M
  have ho := pR_e hf
  clear hf
  obtain ⟨a311, w312, e313, k314, q315, hf⟩ := ho
  cases e313
  refine q_putR X M hS flX6_114 (Or.inr rfl) k314 dX6_init_304 (fun H locs M hS => ?_)
  rw [q315] at M
  refine q_aload_n X dX6_init_307 rfl (lv_at hl 0 rfl) ?_
  refine lv_ldc (v := 56400) X.1 X.2.1 X.2.2.2.1 (X.2.2.2.2.2.2.2.1 _ gm_136) dX6_init_308 ?_
  have ho := nwA_e hf
  clear hf
  obtain ⟨w316, z317, z318, q319, hf⟩ := ho
  refine q_newa X M hS (t := 0) (Or.inl ⟨rfl, rfl⟩) gm_63 z317 (bd := 56400) z318 (by decide) (MC := 44) (MS := 376290) rfl rfl (by omega) (by omega) dX6_init_310 (fun H M hS => ?_)
  rw [q319] at M
  have ho := pR_e hf
  clear hf
  obtain ⟨a320, w321, e322, k323, q324, hf⟩ := ho
  cases e322
  refine q_putR X M hS flX6_118 (Or.inr rfl) k323 dX6_init_312 (fun H locs M hS => ?_)
  rw [q324] at M
  refine q_aload_n X dX6_init_315 rfl (lv_at hl 0 rfl) ?_
  refine lv_ldc (v := 56400) X.1 X.2.1 X.2.2.2.1 (X.2.2.2.2.2.2.2.1 _ gm_136) dX6_init_316 ?_
  have ho := nwA_e hf
  clear hf
  obtain ⟨w325, z326, z327, q328, hf⟩ := ho
  refine q_newa X M hS (t := 0) (Or.inl ⟨rfl, rfl⟩) gm_63 z326 (bd := 56400) z327 (by decide) (MC := 44) (MS := 376290) rfl rfl (by omega) (by omega) dX6_init_318 (fun H M hS => ?_)
  rw [q328] at M
  have ho := pR_e hf
  clear hf
  obtain ⟨a329, w330, e331, k332, q333, hf⟩ := ho
  cases e331
  refine q_putR X M hS flX6_121 (Or.inr rfl) k332 dX6_init_320 (fun H locs M hS => ?_)
  rw [q333] at M
  refine q_aload_n X dX6_init_323 rfl (lv_at hl 0 rfl) ?_
  refine lv_ldc (v := 56400) X.1 X.2.1 X.2.2.2.1 (X.2.2.2.2.2.2.2.1 _ gm_136) dX6_init_324 ?_
  have ho := nwA_e hf
  clear hf
  obtain ⟨w334, z335, z336, q337, hf⟩ := ho
  refine q_newa X M hS (t := 0) (Or.inl ⟨rfl, rfl⟩) gm_63 z335 (bd := 56400) z336 (by decide) (MC := 44) (MS := 376290) rfl rfl (by omega) (by omega) dX6_init_326 (fun H M hS => ?_)
  rw [q337] at M
  have ho := pR_e hf
  clear hf
  obtain ⟨a338, w339, e340, k341, q342, hf⟩ := ho
  cases e340
  refine q_putR X M hS flX6_124 (Or.inr rfl) k341 dX6_init_328 (fun H locs M hS => ?_)
  rw [q342] at M
  refine q_aload_n X dX6_init_331 rfl (lv_at hl 0 rfl) ?_
  refine lv_ldc (v := 56400) X.1 X.2.1 X.2.2.2.1 (X.2.2.2.2.2.2.2.1 _ gm_136) dX6_init_332 ?_
  have ho := nwA_e hf
  clear hf
  obtain ⟨w343, z344, z345, q346, hf⟩ := ho
  refine q_newa X M hS (t := 1) (Or.inr (Or.inl ⟨rfl, rfl⟩)) gm_61 z344 (bd := 56400) z345 (by decide) (MC := 44) (MS := 376290) rfl rfl (by omega) (by omega) dX6_init_334 (fun H M hS => ?_)
  rw [q346] at M
  have ho := pR_e hf
  clear hf
  obtain ⟨a347, w348, e349, k350, q351, hf⟩ := ho
  cases e349
  refine q_putR X M hS flX6_127 (Or.inr rfl) k350 dX6_init_336 (fun H locs M hS => ?_)
  rw [q351] at M
  refine q_aload_n X dX6_init_339 rfl (lv_at hl 0 rfl) ?_
  refine lv_sipush (v := 28200) X.1 X.2.1 dX6_init_340 (by decide) ?_
  have ho := nwA_e hf
  clear hf
  obtain ⟨w352, z353, z354, q355, hf⟩ := ho
  refine q_newa X M hS (t := 0) (Or.inl ⟨rfl, rfl⟩) gm_63 z353 (bd := 28200) z354 (by decide) (MC := 44) (MS := 376290) rfl rfl (by omega) (by omega) dX6_init_343 (fun H M hS => ?_)
  rw [q355] at M
  have ho := pR_e hf
  clear hf
  obtain ⟨a356, w357, e358, k359, q360, hf⟩ := ho
  cases e358
  refine q_putR X M hS flX6_130 (Or.inr rfl) k359 dX6_init_345 (fun H locs M hS => ?_)
  rw [q360] at M
  refine q_aload_n X dX6_init_348 rfl (lv_at hl 0 rfl) ?_
  refine lv_sipush (v := 28200) X.1 X.2.1 dX6_init_349 (by decide) ?_
  have ho := nwA_e hf
  clear hf
  obtain ⟨w361, z362, z363, q364, hf⟩ := ho
  refine q_newa X M hS (t := 0) (Or.inl ⟨rfl, rfl⟩) gm_63 z362 (bd := 28200) z363 (by decide) (MC := 44) (MS := 376290) rfl rfl (by omega) (by omega) dX6_init_352 (fun H M hS => ?_)
  rw [q364] at M
  have ho := pR_e hf
  clear hf
  obtain ⟨a365, w366, e367, k368, q369, hf⟩ := ho
  cases e367
  refine q_putR X M hS flX6_133 (Or.inr rfl) k368 dX6_init_354 (fun H locs M hS => ?_)
  rw [q369] at M
  refine q_aload_n X dX6_init_357 rfl (lv_at hl 0 rfl) ?_
  refine lv_sipush (v := 400) X.1 X.2.1 dX6_init_358 (by decide) ?_
  have ho := nwA_e hf
  clear hf
  obtain ⟨w370, z371, z372, q373, hf⟩ := ho
  refine q_newa X M hS (t := 0) (Or.inl ⟨rfl, rfl⟩) gm_63 z371 (bd := 400) z372 (by decide) (MC := 44) (MS := 376290) rfl rfl (by omega) (by omega) dX6_init_361 (fun H M hS => ?_)
  rw [q373] at M
  have ho := pR_e hf
  clear hf
  obtain ⟨a374, w375, e376, k377, q378, hf⟩ := ho
  cases e376
  refine q_putR X M hS flX6_136 (Or.inr rfl) k377 dX6_init_363 (fun H locs M hS => ?_)
  rw [q378] at M
  refine q_aload_n X dX6_init_366 rfl (lv_at hl 0 rfl) ?_
  refine lv_sipush (v := 16800) X.1 X.2.1 dX6_init_367 (by decide) ?_
  have ho := nwA_e hf
  clear hf
  obtain ⟨w379, z380, z381, q382, hf⟩ := ho
  refine q_newa X M hS (t := 0) (Or.inl ⟨rfl, rfl⟩) gm_63 z380 (bd := 16800) z381 (by decide) (MC := 44) (MS := 376290) rfl rfl (by omega) (by omega) dX6_init_370 (fun H M hS => ?_)
  rw [q382] at M
  have ho := pR_e hf
  clear hf
  obtain ⟨a383, w384, e385, k386, q387, hf⟩ := ho
  cases e385
  refine q_putR X M hS flX6_139 (Or.inr rfl) k386 dX6_init_372 (fun H locs M hS => ?_)
  rw [q387] at M
  refine q_aload_n X dX6_init_375 rfl (lv_at hl 0 rfl) ?_
  refine lv_iconst (v := 4) X.1 X.2.1 dX6_init_376 (by decide) ?_
  have ho := nwA_e hf
  clear hf
  obtain ⟨w388, z389, z390, q391, hf⟩ := ho
  refine q_newa X M hS (t := 0) (Or.inl ⟨rfl, rfl⟩) gm_63 z389 (bd := 4) z390 (by decide) (MC := 44) (MS := 376290) rfl rfl (by omega) (by omega) dX6_init_377 (fun H M hS => ?_)
  rw [q391] at M
  have ho := pR_e hf
  clear hf
  obtain ⟨a392, w393, e394, k395, q396, hf⟩ := ho
  cases e394
  refine q_putR X M hS flX6_142 (Or.inr rfl) k395 dX6_init_379 (fun H locs M hS => ?_)
  rw [q396] at M
  refine q_aload_n X dX6_init_382 rfl (lv_at hl 0 rfl) ?_
  refine lv_iload_n X.1 X.2.1 dX6_init_383 rfl (lv_at hl 1 rfl) ?_
  refine lv_iconst (v := 2) X.1 X.2.1 dX6_init_384 (by decide) ?_
  refine lv_icmp_lt (tgt := 397) X.1 X.2.1 dX6_init_385 (by decide) (fun c397 => ?_) (fun c397 => ?_)
  · rw [if_pos c397] at hf
    exact (b_X6_init_397 X) o x2 (some o) w393 _ _ _ _ _ hf M hS (by omega) (by omega) (lv_sub hl [0, 2] rfl)
  · rw [if_neg c397] at hf
    refine lv_iload_n X.1 X.2.1 dX6_init_388 rfl (lv_at hl 1 rfl) ?_
    refine lv_iconst (v := 4) X.1 X.2.1 dX6_init_389 (by decide) ?_
    refine lv_icmp_gt (tgt := 397) X.1 X.2.1 dX6_init_390 (by decide) (fun c495 => ?_) (fun c495 => ?_)
    · rw [if_pos c495] at hf
      exact (b_X6_init_397 X) o x2 (some o) w393 _ _ _ _ _ hf M hS (by omega) (by omega) (lv_sub hl [0, 2] rfl)
    · rw [if_neg c495] at hf
      refine lv_iload_n X.1 X.2.1 dX6_init_393 rfl (lv_at hl 1 rfl) ?_
      refine lv_goto (tgt := 398) X.1 X.2.1 dX6_init_394 (by decide) ?_
      exact (b_X6_init_398 X) o x2 (some o) x1 w393 _ _ _ _ _ hf M hS (by omega) (by omega) (lv_sub hl [0, 2] rfl)
theorem m_X6_init {l : Launch} {D : va_G} {aC : Nat → ClassId} {b0 : Nat} {w : Wd} (o : Nat) (x1 : Int32) (x2 : Int32) (v : Unit) (w' : Wd) (hf : f_X6_init o x1 x2 w = some (v, w')) : Ct l D aC b0 yX6_init (Cond.code yX6_init cX6_init 6 none :: Gw) rX6_init [va_rf (some o), .int x1, .int x2] w none w' :=
  q_met (by decide) (Nat.le_of_ble_eq_true rfl) (fun p e s m below meth c X M ls hl => e_X6_init X (res := (v, w')) o x1 x2 w s.heap [] 0 0 ls hf M va_S.rf (by decide) (by decide) hl)
abbrev rX6_in : Room := { frames := 0, cells := 0, slots := 0, locals := 0 }
def f_X6_in (x0 : Int32) (x1 : Int32) (x2 : Int32) (w : Wd) : Option (Int32 × Wd) := if x0 < x1 then (retZ 0 w) else (if x2 < x0 then (retZ 0 w) else (retZ 1 w))
set_option maxHeartbeats 4000000 in
set_option maxRecDepth 100000 in
theorem e_X6_in {l : Launch} {D : va_G} {aC : Nat → ClassId} {b0 : Nat} {p : Program} {e : Env} {s : State} {m : MethodId} {args : Array Value} {below : List Frame} {meth : Method} {c : Code} (X : Cx D aC p s m args meth c cX6_in RX6 3 "in" (some .boolean)) {res : (Int32 × Wd)} (x0 : Int32) (x1 : Int32) (x2 : Int32) (w : Wd) : BW l D aC b0 p e rX6_in s m args below meth c (Qe D aC b0 below args s 0 0 (some (.int res.1)) res.2) res 0 0 0 0 (f_X6_in x0 x1 x2 w) w 0 3 [(0, .int x0), (1, .int x1), (2, .int x2)] [] := by
  intro H locs cells slots ls hf M hS hc hs hl
  unfold f_X6_in at hf
  refine lv_iload_n X.1 X.2.1 dX6_in_0 rfl (lv_at hl 0 rfl) ?_
  refine lv_iload_n X.1 X.2.1 dX6_in_1 rfl (lv_at hl 1 rfl) ?_
  refine lv_icmp_lt (tgt := 14) X.1 X.2.1 dX6_in_2 (by decide) (fun c1 => ?_) (fun c1 => ?_)
  · rw [if_pos c1] at hf
    refine lv_iconst (v := 0) X.1 X.2.1 dX6_in_14 (by decide) ?_
    have ho := retZ_e hf
    clear hf
    obtain ⟨z2, rfl⟩ := ho
    exact q_zret X M hS (by omega) (by omega) z2 dX6_in_15
  · rw [if_neg c1] at hf
    refine lv_iload_n X.1 X.2.1 dX6_in_5 rfl (lv_at hl 0 rfl) ?_
    refine lv_iload_n X.1 X.2.1 dX6_in_6 rfl (lv_at hl 2 rfl) ?_
    refine lv_icmp_gt (tgt := 14) X.1 X.2.1 dX6_in_7 (by decide) (fun c3 => ?_) (fun c3 => ?_)
    · rw [if_pos c3] at hf
      refine lv_iconst (v := 0) X.1 X.2.1 dX6_in_14 (by decide) ?_
      have ho := retZ_e hf
      clear hf
      obtain ⟨z4, rfl⟩ := ho
      exact q_zret X M hS (by omega) (by omega) z4 dX6_in_15
    · rw [if_neg c3] at hf
      refine lv_iconst (v := 1) X.1 X.2.1 dX6_in_10 (by decide) ?_
      refine lv_goto (tgt := 15) X.1 X.2.1 dX6_in_11 (by decide) ?_
      have ho := retZ_e hf
      clear hf
      obtain ⟨z5, rfl⟩ := ho
      exact q_zret X M hS (by omega) (by omega) z5 dX6_in_15
theorem m_X6_in {l : Launch} {D : va_G} {aC : Nat → ClassId} {b0 : Nat} {w : Wd} (x0 : Int32) (x1 : Int32) (x2 : Int32) (v : Int32) (w' : Wd) (hf : f_X6_in x0 x1 x2 w = some (v, w')) : Ct l D aC b0 yX6_in (Cond.code yX6_in cX6_in 3 (some .boolean) :: Gw) rX6_in [.int x0, .int x1, .int x2] w (some (.int v)) w' :=
  q_met (by decide) (Nat.le_of_ble_eq_true rfl) (fun p e s m below meth c X M ls hl => e_X6_in X (res := (v, w')) x0 x1 x2 w s.heap [] 0 0 ls hf M va_S.rf (by decide) (by decide) hl)
abbrev rX6_isClient : Room := { frames := 1, cells := 0, slots := 0, locals := 22 }
def f_X6_isClient (x0 : Int32) (w : Wd) : Option (Int32 × Wd) := bnd (f_X6_in x0 0 5 w) (fun v1 w2 => retZ v1 w2)
set_option maxHeartbeats 4000000 in
set_option maxRecDepth 100000 in
theorem e_X6_isClient {l : Launch} {D : va_G} {aC : Nat → ClassId} {b0 : Nat} {p : Program} {e : Env} {s : State} {m : MethodId} {args : Array Value} {below : List Frame} {meth : Method} {c : Code} (X : Cx D aC p s m args meth c cX6_isClient RX6 1 "isClient" (some .boolean)) {res : (Int32 × Wd)} (x0 : Int32) (w : Wd) : BW l D aC b0 p e rX6_isClient s m args below meth c (Qe D aC b0 below args s 0 0 (some (.int res.1)) res.2) res 0 0 0 0 (f_X6_isClient x0 w) w 0 1 [(0, .int x0)] [] := by
  intro H locs cells slots ls hf M hS hc hs hl
  unfold f_X6_isClient at hf
  refine lv_iload_n X.1 X.2.1 dX6_isClient_0 rfl (lv_at hl 0 rfl) ?_
  refine lv_iconst (v := 0) X.1 X.2.1 dX6_isClient_1 (by decide) ?_
  refine lv_iconst (v := 5) X.1 X.2.1 dX6_isClient_2 (by decide) ?_
  have ho := bnd_e hf
  clear hf
  obtain ⟨v1, w2, q3, hf⟩ := ho
  refine q_cS X M hS hl.1 (As := [.int x0, .int 0, .int 5]) (m_X6_in x0 0 5 _ _ q3) mlX6_152 gm_171 rfl ⟨(Nat.le_of_ble_eq_true rfl), (Nat.le_of_ble_eq_true rfl)⟩ (rest := []) rfl (Nat.le_of_ble_eq_true rfl) (mc := 0) (ms := 0) (MC := 0) (MS := 0) rfl rfl rfl rfl (by omega) (by omega) dX6_isClient_3 (st2 := [.int v1]) rfl (fun H locs M hS => ?_)
  have ho := retZ_e hf
  clear hf
  obtain ⟨z4, rfl⟩ := ho
  exact q_zret X M hS (by omega) (by omega) z4 dX6_isClient_6
theorem m_X6_isClient {l : Launch} {D : va_G} {aC : Nat → ClassId} {b0 : Nat} {w : Wd} (x0 : Int32) (v : Int32) (w' : Wd) (hf : f_X6_isClient x0 w = some (v, w')) : Ct l D aC b0 yX6_isClient (Cond.code yX6_isClient cX6_isClient 1 (some .boolean) :: Gw) rX6_isClient [.int x0] w (some (.int v)) w' :=
  q_met (by decide) (Nat.le_of_ble_eq_true rfl) (fun p e s m below meth c X M ls hl => e_X6_isClient X (res := (v, w')) x0 w s.heap [] 0 0 ls hf M va_S.rf (by decide) (by decide) hl)
abbrev rX6_open : Room := { frames := 2, cells := 0, slots := 0, locals := 42 }
def f_X6_open (o : Nat) (x1 : Int32) (w : Wd) : Option (Int32 × Wd) := bnd (f_X6_isClient x1 w) (fun v1 w2 => if v1 = 0 then (some ((-1), w2)) else (gI w2 (some o) 7 6 (fun v6 => pI w2 (some o) 7 6 (v6 + 1) (fun w11 => gR w11 (some o) 7 7 (fun v16 => gI w11 (some o) 7 6 (fun v21 => tI w11 v16 100 x1 v21 (fun w26 => gR w26 (some o) 7 8 (fun v32 => gI w26 (some o) 7 2 (fun v37 => gI w26 (some o) 7 1 (fun v42 => tI w26 v32 100 x1 (v37 + v42) (fun w47 => gR w47 (some o) 7 9 (fun v53 => tI w47 v53 100 x1 0 (fun w58 => gI w58 (some o) 7 6 (fun v64 => some (v64, w58)))))))))))))))
set_option maxHeartbeats 4000000 in
set_option maxRecDepth 100000 in
theorem e_X6_open {l : Launch} {D : va_G} {aC : Nat → ClassId} {b0 : Nat} {p : Program} {e : Env} {s : State} {m : MethodId} {args : Array Value} {below : List Frame} {meth : Method} {c : Code} (X : Cx D aC p s m args meth c cX6_open RX6 2 "open" (some .int)) {res : (Int32 × Wd)} (o : Nat) (x1 : Int32) (w : Wd) : BW l D aC b0 p e rX6_open s m args below meth c (Qe D aC b0 below args s 0 0 (some (.int res.1)) res.2) res 0 0 0 0 (f_X6_open o x1 w) w 0 2 [(0, va_rf (some o)), (1, .int x1)] [] := by
  intro H locs cells slots ls hf M hS hc hs hl
  unfold f_X6_open at hf
  refine lv_iload_n X.1 X.2.1 dX6_open_0 rfl (lv_at hl 1 rfl) ?_
  have ho := bnd_e hf
  clear hf
  obtain ⟨v1, w2, q3, hf⟩ := ho
  refine q_cS X M hS hl.1 (As := [.int x1]) (m_X6_isClient x1 _ _ q3) mlX6_172 gm_168 rfl ⟨(Nat.le_of_ble_eq_true rfl), (Nat.le_of_ble_eq_true rfl)⟩ (rest := []) rfl (Nat.le_of_ble_eq_true rfl) (mc := 0) (ms := 0) (MC := 0) (MS := 0) rfl rfl rfl rfl (by omega) (by omega) dX6_open_1 (st2 := [.int v1]) rfl (fun H locs M hS => ?_)
  refine lv_if_ne (tgt := 9) X.1 X.2.1 dX6_open_4 (by decide) (fun c4 => ?_) (fun c4 => ?_)
  · rw [if_neg c4] at hf
    refine q_aload_n X dX6_open_9 rfl (lv_at hl 0 rfl) ?_
    refine lv_dup X.1 X.2.1 dX6_open_10 rfl ?_
    have ho := gI_e hf
    clear hf
    obtain ⟨a5, v6, e7, k8, q9, hf⟩ := ho
    cases e7
    refine q_get X M flX6_176.g k8 (congrArg Value.int q9) dX6_open_11 ?_
    refine lv_iconst (v := 1) X.1 X.2.1 dX6_open_14 (by decide) ?_
    refine lv_iadd X.1 X.2.1 dX6_open_15 ?_
    have ho := pI_e hf
    clear hf
    obtain ⟨a10, w11, e12, k13, q14, hf⟩ := ho
    cases e12
    refine q_putI X M hS flX6_176 (Or.inl rfl) k13 dX6_open_16 (fun H locs M hS => ?_)
    rw [q14] at M
    refine q_aload_n X dX6_open_19 rfl (lv_at hl 0 rfl) ?_
    have ho := gR_e hf
    clear hf
    obtain ⟨a15, v16, e17, k18, q19, hf⟩ := ho
    cases e17
    refine q_get X M flX6_7.g k18 (congrArg va_rf q19) dX6_open_20 ?_
    refine lv_iload_n X.1 X.2.1 dX6_open_23 rfl (lv_at hl 1 rfl) ?_
    refine q_aload_n X dX6_open_24 rfl (lv_at hl 0 rfl) ?_
    have ho := gI_e hf
    clear hf
    obtain ⟨a20, v21, e22, k23, q24, hf⟩ := ho
    cases e22
    refine q_get X M flX6_176.g k23 (congrArg Value.int q24) dX6_open_25 ?_
    have ho := tI_e hf
    clear hf
    obtain ⟨a25, w26, e27, k28, i29, q30, hf⟩ := ho
    cases e27
    refine q_iast X M hS k28 i29 dX6_open_28 (fun H locs M hS => ?_)
    rw [q30] at M
    refine q_aload_n X dX6_open_29 rfl (lv_at hl 0 rfl) ?_
    have ho := gR_e hf
    clear hf
    obtain ⟨a31, v32, e33, k34, q35, hf⟩ := ho
    cases e33
    refine q_get X M flX6_13.g k34 (congrArg va_rf q35) dX6_open_30 ?_
    refine lv_iload_n X.1 X.2.1 dX6_open_33 rfl (lv_at hl 1 rfl) ?_
    refine q_aload_n X dX6_open_34 rfl (lv_at hl 0 rfl) ?_
    have ho := gI_e hf
    clear hf
    obtain ⟨a36, v37, e38, k39, q40, hf⟩ := ho
    cases e38
    refine q_get X M flX6_156.g k39 (congrArg Value.int q40) dX6_open_35 ?_
    refine q_aload_n X dX6_open_38 rfl (lv_at hl 0 rfl) ?_
    have ho := gI_e hf
    clear hf
    obtain ⟨a41, v42, e43, k44, q45, hf⟩ := ho
    cases e43
    refine q_get X M flX6_149.g k44 (congrArg Value.int q45) dX6_open_39 ?_
    refine lv_iadd X.1 X.2.1 dX6_open_42 ?_
    have ho := tI_e hf
    clear hf
    obtain ⟨a46, w47, e48, k49, i50, q51, hf⟩ := ho
    cases e48
    refine q_iast X M hS k49 i50 dX6_open_43 (fun H locs M hS => ?_)
    rw [q51] at M
    refine q_aload_n X dX6_open_44 rfl (lv_at hl 0 rfl) ?_
    have ho := gR_e hf
    clear hf
    obtain ⟨a52, v53, e54, k55, q56, hf⟩ := ho
    cases e54
    refine q_get X M flX6_16.g k55 (congrArg va_rf q56) dX6_open_45 ?_
    refine lv_iload_n X.1 X.2.1 dX6_open_48 rfl (lv_at hl 1 rfl) ?_
    refine lv_iconst (v := 0) X.1 X.2.1 dX6_open_49 (by decide) ?_
    have ho := tI_e hf
    clear hf
    obtain ⟨a57, w58, e59, k60, i61, q62, hf⟩ := ho
    cases e59
    refine q_iast X M hS k60 i61 dX6_open_50 (fun H locs M hS => ?_)
    rw [q62] at M
    refine q_aload_n X dX6_open_51 rfl (lv_at hl 0 rfl) ?_
    have ho := gI_e hf
    clear hf
    obtain ⟨a63, v64, e65, k66, q67, hf⟩ := ho
    cases e65
    refine q_get X M flX6_176.g k66 (congrArg Value.int q67) dX6_open_52 ?_
    obtain rfl := Option.some.inj hf
    exact q_iret X M hS (by omega) (by omega) dX6_open_55
  · rw [if_pos c4] at hf
    refine lv_iconst (v := (-1)) X.1 X.2.1 dX6_open_7 (by decide) ?_
    obtain rfl := Option.some.inj hf
    exact q_iret X M hS (by omega) (by omega) dX6_open_8
theorem m_X6_open {l : Launch} {D : va_G} {aC : Nat → ClassId} {b0 : Nat} {w : Wd} (o : Nat) (x1 : Int32) (v : Int32) (w' : Wd) (hf : f_X6_open o x1 w = some (v, w')) : Ct l D aC b0 yX6_open (Cond.code yX6_open cX6_open 2 (some .int) :: Gw) rX6_open [va_rf (some o), .int x1] w (some (.int v)) w' :=
  q_met (by decide) (Nat.le_of_ble_eq_true rfl) (fun p e s m below meth c X M ls hl => e_X6_open X (res := (v, w')) o x1 w s.heap [] 0 0 ls hf M va_S.rf (by decide) (by decide) hl)
abbrev rX6_isLive : Room := { frames := 0, cells := 0, slots := 0, locals := 0 }
def f_X6_isLive_43 (K4 : Nat → Int32 → Int32 → Int32 → Wd → Option (Int32 × Wd)) (o : Nat) (x1 : Int32) (x3 : Int32) (y0 : Int32) (y1 : Int32) (w : Wd) : Option (Int32 × Wd) := K4 o x1 (y0 ||| y1) (x3 + 1) w
set_option maxHeartbeats 4000000 in
set_option maxRecDepth 100000 in
theorem b_X6_isLive_43 {l : Launch} {D : va_G} {aC : Nat → ClassId} {b0 : Nat} {p : Program} {e : Env} {s : State} {m : MethodId} {args : Array Value} {below : List Frame} {meth : Method} {c : Code} (X : Cx D aC p s m args meth c cX6_isLive RX6 4 "isLive" (some .boolean)) {res : (Int32 × Wd)} {K4 : Nat → Int32 → Int32 → Int32 → Wd → Option (Int32 × Wd)} (hK4 : ∀ (o : Nat) (x1 : Int32) (x2 : Int32) (x3 : Int32) (w : Wd), BW l D aC b0 p e rX6_isLive s m args below meth c (Qe D aC b0 below args s 0 0 (some (.int res.1)) res.2) res 0 0 0 0 (K4 o x1 x2 x3 w) w 4 4 [(0, va_rf (some o)), (1, .int x1), (2, .int x2), (3, .int x3)] []) : ∀ (o : Nat) (x1 : Int32) (x3 : Int32) (y0 : Int32) (y1 : Int32) (w : Wd), BW l D aC b0 p e rX6_isLive s m args below meth c (Qe D aC b0 below args s 0 0 (some (.int res.1)) res.2) res 0 0 0 0 (f_X6_isLive_43 K4 o x1 x3 y0 y1 w) w 43 4 [(0, va_rf (some o)), (1, .int x1), (3, .int x3)] [.int y1, .int y0] := by
  intro o x1 x3 y0 y1 w H locs cells slots ls hf M hS hc hs hl
  unfold f_X6_isLive_43 at hf
  refine lv_ior X.1 X.2.1 dX6_isLive_43 ?_
  refine lv_istore_n (i := 2) (lv' := [(2, .int (y0 ||| y1)), (0, va_rf (some o)), (1, .int x1), (3, .int x3)]) X.1 X.2.1 dX6_isLive_44 rfl hl (by decide) rfl (fun ls hl => ?_)
  refine lv_iinc (v := (x3 + 1)) (lv' := [(3, .int (x3 + 1)), (2, .int (y0 ||| y1)), (0, va_rf (some o)), (1, .int x1)]) X.1 X.2.1 dX6_isLive_45 hl (k := 3) rfl rfl (by decide) rfl (fun ls hl => ?_)
  refine lv_goto (tgt := 4) X.1 X.2.1 dX6_isLive_48 (by decide) ?_
  exact hK4 o x1 (y0 ||| y1) (x3 + 1) w _ _ _ _ _ hf M hS (by omega) (by omega) (lv_sub hl [2, 3, 1, 0] rfl)
def f_X6_isLive_42 (K4 : Nat → Int32 → Int32 → Int32 → Wd → Option (Int32 × Wd)) (o : Nat) (x1 : Int32) (x3 : Int32) (y0 : Int32) (w : Wd) : Option (Int32 × Wd) := (f_X6_isLive_43 K4) o x1 x3 y0 0 w
set_option maxHeartbeats 4000000 in
set_option maxRecDepth 100000 in
theorem b_X6_isLive_42 {l : Launch} {D : va_G} {aC : Nat → ClassId} {b0 : Nat} {p : Program} {e : Env} {s : State} {m : MethodId} {args : Array Value} {below : List Frame} {meth : Method} {c : Code} (X : Cx D aC p s m args meth c cX6_isLive RX6 4 "isLive" (some .boolean)) {res : (Int32 × Wd)} {K4 : Nat → Int32 → Int32 → Int32 → Wd → Option (Int32 × Wd)} (hK4 : ∀ (o : Nat) (x1 : Int32) (x2 : Int32) (x3 : Int32) (w : Wd), BW l D aC b0 p e rX6_isLive s m args below meth c (Qe D aC b0 below args s 0 0 (some (.int res.1)) res.2) res 0 0 0 0 (K4 o x1 x2 x3 w) w 4 4 [(0, va_rf (some o)), (1, .int x1), (2, .int x2), (3, .int x3)] []) : ∀ (o : Nat) (x1 : Int32) (x3 : Int32) (y0 : Int32) (w : Wd), BW l D aC b0 p e rX6_isLive s m args below meth c (Qe D aC b0 below args s 0 0 (some (.int res.1)) res.2) res 0 0 0 0 (f_X6_isLive_42 K4 o x1 x3 y0 w) w 42 4 [(0, va_rf (some o)), (1, .int x1), (3, .int x3)] [.int y0] := by
  intro o x1 x3 y0 w H locs cells slots ls hf M hS hc hs hl
  unfold f_X6_isLive_42 at hf
  refine lv_iconst (v := 0) X.1 X.2.1 dX6_isLive_42 (by decide) ?_
  exact (b_X6_isLive_43 X hK4) o x1 x3 y0 0 w _ _ _ _ _ hf M hS (by omega) (by omega) (lv_sub hl [0, 1, 2] rfl)
def f_X6_isLive_4 : Nat → Nat → Int32 → Int32 → Int32 → Wd → Option (Int32 × Wd)
  | 0, _, _, _, _, _ => none
  | n + 1, o, x1, x2, x3, w => if 6 ≤ x3 then (retZ x2 w) else (if x1 ≤ 0 then ((f_X6_isLive_42 (f_X6_isLive_4 n)) o x1 x3 x2 w) else (gR w (some o) 7 7 (fun v5 => aI w v5 100 x3 (fun v10 => if v10 = x1 then (gI w (some o) 7 2 (fun v17 => gR w (some o) 7 8 (fun v22 => aI w v22 100 x3 (fun v27 => if v27 < v17 then ((f_X6_isLive_42 (f_X6_isLive_4 n)) o x1 x3 x2 w) else ((f_X6_isLive_43 (f_X6_isLive_4 n)) o x1 x3 x2 1 w))))) else ((f_X6_isLive_42 (f_X6_isLive_4 n)) o x1 x3 x2 w)))))
set_option maxHeartbeats 4000000 in
set_option maxRecDepth 100000 in
theorem b_X6_isLive_4 {l : Launch} {D : va_G} {aC : Nat → ClassId} {b0 : Nat} {p : Program} {e : Env} {s : State} {m : MethodId} {args : Array Value} {below : List Frame} {meth : Method} {c : Code} (X : Cx D aC p s m args meth c cX6_isLive RX6 4 "isLive" (some .boolean)) {res : (Int32 × Wd)} : ∀ (n : Nat) (o : Nat) (x1 : Int32) (x2 : Int32) (x3 : Int32) (w : Wd), BW l D aC b0 p e rX6_isLive s m args below meth c (Qe D aC b0 below args s 0 0 (some (.int res.1)) res.2) res 0 0 0 0 (f_X6_isLive_4 n o x1 x2 x3 w) w 4 4 [(0, va_rf (some o)), (1, .int x1), (2, .int x2), (3, .int x3)] [] := by
  intro n
  induction n with
  | zero =>
    intro o x1 x2 x3 w H locs cells slots ls hf
    rw [f_X6_isLive_4.eq_1] at hf
    cases hf
  | succ n ih =>
    intro o x1 x2 x3 w H locs cells slots ls hf M hS hc hs hl
    rw [f_X6_isLive_4.eq_2] at hf
    refine lv_iload_n X.1 X.2.1 dX6_isLive_4 rfl (lv_at hl 3 rfl) ?_
    refine lv_bipush (v := 6) X.1 X.2.1 dX6_isLive_5 (by decide) ?_
    refine lv_icmp_ge (tgt := 51) X.1 X.2.1 dX6_isLive_7 (by decide) (fun c1 => ?_) (fun c1 => ?_)
    · rw [if_pos c1] at hf
      refine lv_iload_n X.1 X.2.1 dX6_isLive_51 rfl (lv_at hl 2 rfl) ?_
      have ho := retZ_e hf
      clear hf
      obtain ⟨z2, rfl⟩ := ho
      exact q_zret X M hS (by omega) (by omega) z2 dX6_isLive_52
    · rw [if_neg c1] at hf
      refine lv_iload_n X.1 X.2.1 dX6_isLive_10 rfl (lv_at hl 2 rfl) ?_
      refine lv_iload_n X.1 X.2.1 dX6_isLive_11 rfl (lv_at hl 1 rfl) ?_
      refine lv_if_le (tgt := 42) X.1 X.2.1 dX6_isLive_12 (by decide) (fun c3 => ?_) (fun c3 => ?_)
      · rw [if_pos c3] at hf
        exact (b_X6_isLive_42 X ih) o x1 x3 x2 w _ _ _ _ _ hf M hS (by omega) (by omega) (lv_sub hl [0, 1, 3] rfl)
      · rw [if_neg c3] at hf
        refine q_aload_n X dX6_isLive_15 rfl (lv_at hl 0 rfl) ?_
        have ho := gR_e hf
        clear hf
        obtain ⟨a4, v5, e6, k7, q8, hf⟩ := ho
        cases e6
        refine q_get X M flX6_7.g k7 (congrArg va_rf q8) dX6_isLive_16 ?_
        refine lv_iload_n X.1 X.2.1 dX6_isLive_19 rfl (lv_at hl 3 rfl) ?_
        have ho := aI_e hf
        clear hf
        obtain ⟨a9, v10, e11, k12, i13, q14, hf⟩ := ho
        cases e11
        refine q_iald X M k12 i13 dX6_isLive_20 ?_
        rw [q14]
        refine lv_iload_n X.1 X.2.1 dX6_isLive_21 rfl (lv_at hl 1 rfl) ?_
        refine lv_icmp_ne (tgt := 42) X.1 X.2.1 dX6_isLive_22 (by decide) (fun c15 => ?_) (fun c15 => ?_)
        · rw [if_neg c15] at hf
          exact (b_X6_isLive_42 X ih) o x1 x3 x2 w _ _ _ _ _ hf M hS (by omega) (by omega) (lv_sub hl [0, 1, 3] rfl)
        · rw [if_pos c15] at hf
          refine q_aload_n X dX6_isLive_25 rfl (lv_at hl 0 rfl) ?_
          have ho := gI_e hf
          clear hf
          obtain ⟨a16, v17, e18, k19, q20, hf⟩ := ho
          cases e18
          refine q_get X M flX6_156.g k19 (congrArg Value.int q20) dX6_isLive_26 ?_
          refine q_aload_n X dX6_isLive_29 rfl (lv_at hl 0 rfl) ?_
          have ho := gR_e hf
          clear hf
          obtain ⟨a21, v22, e23, k24, q25, hf⟩ := ho
          cases e23
          refine q_get X M flX6_13.g k24 (congrArg va_rf q25) dX6_isLive_30 ?_
          refine lv_iload_n X.1 X.2.1 dX6_isLive_33 rfl (lv_at hl 3 rfl) ?_
          have ho := aI_e hf
          clear hf
          obtain ⟨a26, v27, e28, k29, i30, q31, hf⟩ := ho
          cases e28
          refine q_iald X M k29 i30 dX6_isLive_34 ?_
          rw [q31]
          refine lv_icmp_gt (tgt := 42) X.1 X.2.1 dX6_isLive_35 (by decide) (fun c32 => ?_) (fun c32 => ?_)
          · rw [if_pos c32] at hf
            exact (b_X6_isLive_42 X ih) o x1 x3 x2 w _ _ _ _ _ hf M hS (by omega) (by omega) (lv_sub hl [0, 1, 3] rfl)
          · rw [if_neg c32] at hf
            refine lv_iconst (v := 1) X.1 X.2.1 dX6_isLive_38 (by decide) ?_
            refine lv_goto (tgt := 43) X.1 X.2.1 dX6_isLive_39 (by decide) ?_
            exact (b_X6_isLive_43 X ih) o x1 x3 x2 1 w _ _ _ _ _ hf M hS (by omega) (by omega) (lv_sub hl [0, 1, 3] rfl)
def f_X6_isLive (o : Nat) (x1 : Int32) (w : Wd) : Option (Int32 × Wd) := (f_X6_isLive_4 FU) o x1 0 0 w
set_option maxHeartbeats 4000000 in
set_option maxRecDepth 100000 in
theorem e_X6_isLive {l : Launch} {D : va_G} {aC : Nat → ClassId} {b0 : Nat} {p : Program} {e : Env} {s : State} {m : MethodId} {args : Array Value} {below : List Frame} {meth : Method} {c : Code} (X : Cx D aC p s m args meth c cX6_isLive RX6 4 "isLive" (some .boolean)) {res : (Int32 × Wd)} (o : Nat) (x1 : Int32) (w : Wd) : BW l D aC b0 p e rX6_isLive s m args below meth c (Qe D aC b0 below args s 0 0 (some (.int res.1)) res.2) res 0 0 0 0 (f_X6_isLive o x1 w) w 0 4 [(0, va_rf (some o)), (1, .int x1)] [] := by
  intro H locs cells slots ls hf M hS hc hs hl
  unfold f_X6_isLive at hf
  refine lv_iconst (v := 0) X.1 X.2.1 dX6_isLive_0 (by decide) ?_
  refine lv_istore_n (i := 2) (lv' := [(2, .int 0), (0, va_rf (some o)), (1, .int x1)]) X.1 X.2.1 dX6_isLive_1 rfl hl (by decide) rfl (fun ls hl => ?_)
  refine lv_iconst (v := 0) X.1 X.2.1 dX6_isLive_2 (by decide) ?_
  refine lv_istore_n (i := 3) (lv' := [(3, .int 0), (2, .int 0), (0, va_rf (some o)), (1, .int x1)]) X.1 X.2.1 dX6_isLive_3 rfl hl (by decide) rfl (fun ls hl => ?_)
  exact (b_X6_isLive_4 X FU) o x1 0 0 w _ _ _ _ _ hf M hS (by omega) (by omega) (lv_sub hl [2, 3, 1, 0] rfl)
theorem m_X6_isLive {l : Launch} {D : va_G} {aC : Nat → ClassId} {b0 : Nat} {w : Wd} (o : Nat) (x1 : Int32) (v : Int32) (w' : Wd) (hf : f_X6_isLive o x1 w = some (v, w')) : Ct l D aC b0 yX6_isLive (Cond.code yX6_isLive cX6_isLive 4 (some .boolean) :: Gw) rX6_isLive [va_rf (some o), .int x1] w (some (.int v)) w' :=
  q_met (by decide) (Nat.le_of_ble_eq_true rfl) (fun p e s m below meth c X M ls hl => e_X6_isLive X (res := (v, w')) o x1 w s.heap [] 0 0 ls hf M va_S.rf (by decide) (by decide) hl)
abbrev rX6_renew : Room := { frames := 2, cells := 0, slots := 0, locals := 42 }
def f_X6_renew (o : Nat) (x1 : Int32) (w : Wd) : Option (Int32 × Wd) := bnd (f_X6_isClient x1 w) (fun v1 w2 => if v1 = 0 then (some ((-1), w2)) else (gR w2 (some o) 7 7 (fun v6 => aI w2 v6 100 x1 (fun v11 => chk w2 (some o) 7 (fun a19 => bnd (f_X6_isLive a19 v11 w2) (fun v16 w17 => if v16 = 0 then (some ((-3), w17)) else (gR w17 (some o) 7 8 (fun v24 => gI w17 (some o) 7 2 (fun v29 => gI w17 (some o) 7 1 (fun v34 => tI w17 v24 100 x1 (v29 + v34) (fun w39 => gR w39 (some o) 7 8 (fun v45 => aI w39 v45 100 x1 (fun v50 => some (v50, w39))))))))))))))
set_option maxHeartbeats 4000000 in
set_option maxRecDepth 100000 in
theorem e_X6_renew {l : Launch} {D : va_G} {aC : Nat → ClassId} {b0 : Nat} {p : Program} {e : Env} {s : State} {m : MethodId} {args : Array Value} {below : List Frame} {meth : Method} {c : Code} (X : Cx D aC p s m args meth c cX6_renew RX6 2 "renew" (some .int)) {res : (Int32 × Wd)} (o : Nat) (x1 : Int32) (w : Wd) : BW l D aC b0 p e rX6_renew s m args below meth c (Qe D aC b0 below args s 0 0 (some (.int res.1)) res.2) res 0 0 0 0 (f_X6_renew o x1 w) w 0 2 [(0, va_rf (some o)), (1, .int x1)] [] := by
  intro H locs cells slots ls hf M hS hc hs hl
  unfold f_X6_renew at hf
  refine lv_iload_n X.1 X.2.1 dX6_renew_0 rfl (lv_at hl 1 rfl) ?_
  have ho := bnd_e hf
  clear hf
  obtain ⟨v1, w2, q3, hf⟩ := ho
  refine q_cS X M hS hl.1 (As := [.int x1]) (m_X6_isClient x1 _ _ q3) mlX6_172 gm_168 rfl ⟨(Nat.le_of_ble_eq_true rfl), (Nat.le_of_ble_eq_true rfl)⟩ (rest := []) rfl (Nat.le_of_ble_eq_true rfl) (mc := 0) (ms := 0) (MC := 0) (MS := 0) rfl rfl rfl rfl (by omega) (by omega) dX6_renew_1 (st2 := [.int v1]) rfl (fun H locs M hS => ?_)
  refine lv_if_ne (tgt := 9) X.1 X.2.1 dX6_renew_4 (by decide) (fun c4 => ?_) (fun c4 => ?_)
  · rw [if_neg c4] at hf
    refine q_aload_n X dX6_renew_9 rfl (lv_at hl 0 rfl) ?_
    refine q_aload_n X dX6_renew_10 rfl (lv_at hl 0 rfl) ?_
    have ho := gR_e hf
    clear hf
    obtain ⟨a5, v6, e7, k8, q9, hf⟩ := ho
    cases e7
    refine q_get X M flX6_7.g k8 (congrArg va_rf q9) dX6_renew_11 ?_
    refine lv_iload_n X.1 X.2.1 dX6_renew_14 rfl (lv_at hl 1 rfl) ?_
    have ho := aI_e hf
    clear hf
    obtain ⟨a10, v11, e12, k13, i14, q15, hf⟩ := ho
    cases e12
    refine q_iald X M k13 i14 dX6_renew_15 ?_
    rw [q15]
    have ho := chk_e hf
    clear hf
    obtain ⟨a19, e20, k21, hf⟩ := ho
    cases e20
    have ho := bnd_e hf
    clear hf
    obtain ⟨v16, w17, q18, hf⟩ := ho
    refine q_cV X M hS hl.1 (ci := 6) (r := (RX6, TX6, 53)) (As := [.int v11]) (m_X6_isLive o v11 _ _ q18) mlX6_179 gm_186 gm_187 rfl (by decide) k21 rfl ⟨(Nat.le_of_ble_eq_true rfl), (Nat.le_of_ble_eq_true rfl)⟩ (rest := []) rfl (Nat.le_of_ble_eq_true rfl) (mc := 0) (ms := 0) (MC := 0) (MS := 0) rfl rfl rfl rfl (by omega) (by omega) dX6_renew_16 (st2 := [.int v16]) rfl (fun H locs M hS => ?_)
    refine lv_if_ne (tgt := 25) X.1 X.2.1 dX6_renew_19 (by decide) (fun c22 => ?_) (fun c22 => ?_)
    · rw [if_neg c22] at hf
      refine q_aload_n X dX6_renew_25 rfl (lv_at hl 0 rfl) ?_
      have ho := gR_e hf
      clear hf
      obtain ⟨a23, v24, e25, k26, q27, hf⟩ := ho
      cases e25
      refine q_get X M flX6_13.g k26 (congrArg va_rf q27) dX6_renew_26 ?_
      refine lv_iload_n X.1 X.2.1 dX6_renew_29 rfl (lv_at hl 1 rfl) ?_
      refine q_aload_n X dX6_renew_30 rfl (lv_at hl 0 rfl) ?_
      have ho := gI_e hf
      clear hf
      obtain ⟨a28, v29, e30, k31, q32, hf⟩ := ho
      cases e30
      refine q_get X M flX6_156.g k31 (congrArg Value.int q32) dX6_renew_31 ?_
      refine q_aload_n X dX6_renew_34 rfl (lv_at hl 0 rfl) ?_
      have ho := gI_e hf
      clear hf
      obtain ⟨a33, v34, e35, k36, q37, hf⟩ := ho
      cases e35
      refine q_get X M flX6_149.g k36 (congrArg Value.int q37) dX6_renew_35 ?_
      refine lv_iadd X.1 X.2.1 dX6_renew_38 ?_
      have ho := tI_e hf
      clear hf
      obtain ⟨a38, w39, e40, k41, i42, q43, hf⟩ := ho
      cases e40
      refine q_iast X M hS k41 i42 dX6_renew_39 (fun H locs M hS => ?_)
      rw [q43] at M
      refine q_aload_n X dX6_renew_40 rfl (lv_at hl 0 rfl) ?_
      have ho := gR_e hf
      clear hf
      obtain ⟨a44, v45, e46, k47, q48, hf⟩ := ho
      cases e46
      refine q_get X M flX6_13.g k47 (congrArg va_rf q48) dX6_renew_41 ?_
      refine lv_iload_n X.1 X.2.1 dX6_renew_44 rfl (lv_at hl 1 rfl) ?_
      have ho := aI_e hf
      clear hf
      obtain ⟨a49, v50, e51, k52, i53, q54, hf⟩ := ho
      cases e51
      refine q_iald X M k52 i53 dX6_renew_45 ?_
      rw [q54]
      obtain rfl := Option.some.inj hf
      exact q_iret X M hS (by omega) (by omega) dX6_renew_46
    · rw [if_pos c22] at hf
      refine lv_bipush (v := (-3)) X.1 X.2.1 dX6_renew_22 (by decide) ?_
      obtain rfl := Option.some.inj hf
      exact q_iret X M hS (by omega) (by omega) dX6_renew_24
  · rw [if_pos c4] at hf
    refine lv_iconst (v := (-1)) X.1 X.2.1 dX6_renew_7 (by decide) ?_
    obtain rfl := Option.some.inj hf
    exact q_iret X M hS (by omega) (by omega) dX6_renew_8
theorem m_X6_renew {l : Launch} {D : va_G} {aC : Nat → ClassId} {b0 : Nat} {w : Wd} (o : Nat) (x1 : Int32) (v : Int32) (w' : Wd) (hf : f_X6_renew o x1 w = some (v, w')) : Ct l D aC b0 yX6_renew (Cond.code yX6_renew cX6_renew 2 (some .int) :: Gw) rX6_renew [va_rf (some o), .int x1] w (some (.int v)) w' :=
  q_met (by decide) (Nat.le_of_ble_eq_true rfl) (fun p e s m below meth c X M ls hl => e_X6_renew X (res := (v, w')) o x1 w s.heap [] 0 0 ls hf M va_S.rf (by decide) (by decide) hl)
abbrev rX6_waiting : Room := { frames := 0, cells := 0, slots := 0, locals := 0 }
def f_X6_waiting_34 (K4 : Nat → Int32 → Int32 → Int32 → Wd → Option (Int32 × Wd)) (o : Nat) (x1 : Int32) (x3 : Int32) (y0 : Int32) (y1 : Int32) (w : Wd) : Option (Int32 × Wd) := K4 o x1 (y0 + y1) (x3 + 1) w
set_option maxHeartbeats 4000000 in
set_option maxRecDepth 100000 in
theorem b_X6_waiting_34 {l : Launch} {D : va_G} {aC : Nat → ClassId} {b0 : Nat} {p : Program} {e : Env} {s : State} {m : MethodId} {args : Array Value} {below : List Frame} {meth : Method} {c : Code} (X : Cx D aC p s m args meth c cX6_waiting RX6 4 "waiting" (some .int)) {res : (Int32 × Wd)} {K4 : Nat → Int32 → Int32 → Int32 → Wd → Option (Int32 × Wd)} (hK4 : ∀ (o : Nat) (x1 : Int32) (x2 : Int32) (x3 : Int32) (w : Wd), BW l D aC b0 p e rX6_waiting s m args below meth c (Qe D aC b0 below args s 0 0 (some (.int res.1)) res.2) res 0 0 0 0 (K4 o x1 x2 x3 w) w 4 4 [(0, va_rf (some o)), (1, .int x1), (2, .int x2), (3, .int x3)] []) : ∀ (o : Nat) (x1 : Int32) (x3 : Int32) (y0 : Int32) (y1 : Int32) (w : Wd), BW l D aC b0 p e rX6_waiting s m args below meth c (Qe D aC b0 below args s 0 0 (some (.int res.1)) res.2) res 0 0 0 0 (f_X6_waiting_34 K4 o x1 x3 y0 y1 w) w 34 4 [(0, va_rf (some o)), (1, .int x1), (3, .int x3)] [.int y1, .int y0] := by
  intro o x1 x3 y0 y1 w H locs cells slots ls hf M hS hc hs hl
  unfold f_X6_waiting_34 at hf
  refine lv_iadd X.1 X.2.1 dX6_waiting_34 ?_
  refine lv_istore_n (i := 2) (lv' := [(2, .int (y0 + y1)), (0, va_rf (some o)), (1, .int x1), (3, .int x3)]) X.1 X.2.1 dX6_waiting_35 rfl hl (by decide) rfl (fun ls hl => ?_)
  refine lv_iinc (v := (x3 + 1)) (lv' := [(3, .int (x3 + 1)), (2, .int (y0 + y1)), (0, va_rf (some o)), (1, .int x1)]) X.1 X.2.1 dX6_waiting_36 hl (k := 3) rfl rfl (by decide) rfl (fun ls hl => ?_)
  refine lv_goto (tgt := 4) X.1 X.2.1 dX6_waiting_39 (by decide) ?_
  exact hK4 o x1 (y0 + y1) (x3 + 1) w _ _ _ _ _ hf M hS (by omega) (by omega) (lv_sub hl [2, 3, 1, 0] rfl)
def f_X6_waiting_4 : Nat → Nat → Int32 → Int32 → Int32 → Wd → Option (Int32 × Wd)
  | 0, _, _, _, _, _ => none
  | n + 1, o, x1, x2, x3, w => gR w (some o) 7 9 (fun v2 => aI w v2 100 x1 (fun v7 => if v7 ≤ x3 then (some (x2, w)) else (gR w (some o) 7 11 (fun v14 => aI w v14 100 ((60 * x1) + x3) (fun v19 => if v19 = 0 then ((f_X6_waiting_34 (f_X6_waiting_4 n)) o x1 x3 x2 1 w) else ((f_X6_waiting_34 (f_X6_waiting_4 n)) o x1 x3 x2 0 w))))))
set_option maxHeartbeats 4000000 in
set_option maxRecDepth 100000 in
theorem b_X6_waiting_4 {l : Launch} {D : va_G} {aC : Nat → ClassId} {b0 : Nat} {p : Program} {e : Env} {s : State} {m : MethodId} {args : Array Value} {below : List Frame} {meth : Method} {c : Code} (X : Cx D aC p s m args meth c cX6_waiting RX6 4 "waiting" (some .int)) {res : (Int32 × Wd)} : ∀ (n : Nat) (o : Nat) (x1 : Int32) (x2 : Int32) (x3 : Int32) (w : Wd), BW l D aC b0 p e rX6_waiting s m args below meth c (Qe D aC b0 below args s 0 0 (some (.int res.1)) res.2) res 0 0 0 0 (f_X6_waiting_4 n o x1 x2 x3 w) w 4 4 [(0, va_rf (some o)), (1, .int x1), (2, .int x2), (3, .int x3)] [] := by
  intro n
  induction n with
  | zero =>
    intro o x1 x2 x3 w H locs cells slots ls hf
    rw [f_X6_waiting_4.eq_1] at hf
    cases hf
  | succ n ih =>
    intro o x1 x2 x3 w H locs cells slots ls hf M hS hc hs hl
    rw [f_X6_waiting_4.eq_2] at hf
    refine lv_iload_n X.1 X.2.1 dX6_waiting_4 rfl (lv_at hl 3 rfl) ?_
    refine q_aload_n X dX6_waiting_5 rfl (lv_at hl 0 rfl) ?_
    have ho := gR_e hf
    clear hf
    obtain ⟨a1, v2, e3, k4, q5, hf⟩ := ho
    cases e3
    refine q_get X M flX6_16.g k4 (congrArg va_rf q5) dX6_waiting_6 ?_
    refine lv_iload_n X.1 X.2.1 dX6_waiting_9 rfl (lv_at hl 1 rfl) ?_
    have ho := aI_e hf
    clear hf
    obtain ⟨a6, v7, e8, k9, i10, q11, hf⟩ := ho
    cases e8
    refine q_iald X M k9 i10 dX6_waiting_10 ?_
    rw [q11]
    refine lv_icmp_ge (tgt := 42) X.1 X.2.1 dX6_waiting_11 (by decide) (fun c12 => ?_) (fun c12 => ?_)
    · rw [if_pos c12] at hf
      refine lv_iload_n X.1 X.2.1 dX6_waiting_42 rfl (lv_at hl 2 rfl) ?_
      obtain rfl := Option.some.inj hf
      exact q_iret X M hS (by omega) (by omega) dX6_waiting_43
    · rw [if_neg c12] at hf
      refine lv_iload_n X.1 X.2.1 dX6_waiting_14 rfl (lv_at hl 2 rfl) ?_
      refine q_aload_n X dX6_waiting_15 rfl (lv_at hl 0 rfl) ?_
      have ho := gR_e hf
      clear hf
      obtain ⟨a13, v14, e15, k16, q17, hf⟩ := ho
      cases e15
      refine q_get X M flX6_22.g k16 (congrArg va_rf q17) dX6_waiting_16 ?_
      refine lv_bipush (v := 60) X.1 X.2.1 dX6_waiting_19 (by decide) ?_
      refine lv_iload_n X.1 X.2.1 dX6_waiting_21 rfl (lv_at hl 1 rfl) ?_
      refine lv_imul X.1 X.2.1 dX6_waiting_22 ?_
      refine lv_iload_n X.1 X.2.1 dX6_waiting_23 rfl (lv_at hl 3 rfl) ?_
      refine lv_iadd X.1 X.2.1 dX6_waiting_24 ?_
      have ho := aI_e hf
      clear hf
      obtain ⟨a18, v19, e20, k21, i22, q23, hf⟩ := ho
      cases e20
      refine q_iald X M k21 i22 dX6_waiting_25 ?_
      rw [q23]
      refine lv_if_ne (tgt := 33) X.1 X.2.1 dX6_waiting_26 (by decide) (fun c24 => ?_) (fun c24 => ?_)
      · rw [if_neg c24] at hf
        refine lv_iconst (v := 0) X.1 X.2.1 dX6_waiting_33 (by decide) ?_
        exact (b_X6_waiting_34 X ih) o x1 x3 x2 0 w _ _ _ _ _ hf M hS (by omega) (by omega) (lv_sub hl [0, 1, 3] rfl)
      · rw [if_pos c24] at hf
        refine lv_iconst (v := 1) X.1 X.2.1 dX6_waiting_29 (by decide) ?_
        refine lv_goto (tgt := 34) X.1 X.2.1 dX6_waiting_30 (by decide) ?_
        exact (b_X6_waiting_34 X ih) o x1 x3 x2 1 w _ _ _ _ _ hf M hS (by omega) (by omega) (lv_sub hl [0, 1, 3] rfl)
def f_X6_waiting (o : Nat) (x1 : Int32) (w : Wd) : Option (Int32 × Wd) := (f_X6_waiting_4 FU) o x1 0 0 w
set_option maxHeartbeats 4000000 in
set_option maxRecDepth 100000 in
theorem e_X6_waiting {l : Launch} {D : va_G} {aC : Nat → ClassId} {b0 : Nat} {p : Program} {e : Env} {s : State} {m : MethodId} {args : Array Value} {below : List Frame} {meth : Method} {c : Code} (X : Cx D aC p s m args meth c cX6_waiting RX6 4 "waiting" (some .int)) {res : (Int32 × Wd)} (o : Nat) (x1 : Int32) (w : Wd) : BW l D aC b0 p e rX6_waiting s m args below meth c (Qe D aC b0 below args s 0 0 (some (.int res.1)) res.2) res 0 0 0 0 (f_X6_waiting o x1 w) w 0 4 [(0, va_rf (some o)), (1, .int x1)] [] := by
  intro H locs cells slots ls hf M hS hc hs hl
  unfold f_X6_waiting at hf
  refine lv_iconst (v := 0) X.1 X.2.1 dX6_waiting_0 (by decide) ?_
  refine lv_istore_n (i := 2) (lv' := [(2, .int 0), (0, va_rf (some o)), (1, .int x1)]) X.1 X.2.1 dX6_waiting_1 rfl hl (by decide) rfl (fun ls hl => ?_)
  refine lv_iconst (v := 0) X.1 X.2.1 dX6_waiting_2 (by decide) ?_
  refine lv_istore_n (i := 3) (lv' := [(3, .int 0), (2, .int 0), (0, va_rf (some o)), (1, .int x1)]) X.1 X.2.1 dX6_waiting_3 rfl hl (by decide) rfl (fun ls hl => ?_)
  exact (b_X6_waiting_4 X FU) o x1 0 0 w _ _ _ _ _ hf M hS (by omega) (by omega) (lv_sub hl [2, 3, 1, 0] rfl)
theorem m_X6_waiting {l : Launch} {D : va_G} {aC : Nat → ClassId} {b0 : Nat} {w : Wd} (o : Nat) (x1 : Int32) (v : Int32) (w' : Wd) (hf : f_X6_waiting o x1 w = some (v, w')) : Ct l D aC b0 yX6_waiting (Cond.code yX6_waiting cX6_waiting 4 (some .int) :: Gw) rX6_waiting [va_rf (some o), .int x1] w (some (.int v)) w' :=
  q_met (by decide) (Nat.le_of_ble_eq_true rfl) (fun p e s m below meth c X M ls hl => e_X6_waiting X (res := (v, w')) o x1 w s.heap [] 0 0 ls hf M va_S.rf (by decide) (by decide) hl)
abbrev rX6_letter : Room := { frames := 0, cells := 0, slots := 0, locals := 0 }
def f_X6_letter_33 (K0 : Nat → Int32 → Int32 → Int32 → Wd → Option (Int32 × Wd)) (o : Nat) (x1 : Int32) (x2 : Int32) (x3 : Int32) (y0 : Option Nat) (y1 : Int32) (w : Wd) : Option (Int32 × Wd) := pI w y0 7 48 y1 (fun w30 => K0 o x1 x2 x3 w30)
set_option maxHeartbeats 4000000 in
set_option maxRecDepth 100000 in
theorem b_X6_letter_33 {l : Launch} {D : va_G} {aC : Nat → ClassId} {b0 : Nat} {p : Program} {e : Env} {s : State} {m : MethodId} {args : Array Value} {below : List Frame} {meth : Method} {c : Code} (X : Cx D aC p s m args meth c cX6_letter RX6 5 "letter" (some .int)) {res : (Int32 × Wd)} {K0 : Nat → Int32 → Int32 → Int32 → Wd → Option (Int32 × Wd)} (hK0 : ∀ (o : Nat) (x1 : Int32) (x2 : Int32) (x3 : Int32) (w : Wd), BW l D aC b0 p e rX6_letter s m args below meth c (Qe D aC b0 below args s 0 0 (some (.int res.1)) res.2) res 0 0 0 0 (K0 o x1 x2 x3 w) w 0 5 [(0, va_rf (some o)), (1, .int x1), (2, .int x2), (3, .int x3)] []) : ∀ (o : Nat) (x1 : Int32) (x2 : Int32) (x3 : Int32) (y0 : Option Nat) (y1 : Int32) (w : Wd), BW l D aC b0 p e rX6_letter s m args below meth c (Qe D aC b0 below args s 0 0 (some (.int res.1)) res.2) res 0 0 0 0 (f_X6_letter_33 K0 o x1 x2 x3 y0 y1 w) w 33 5 [(0, va_rf (some o)), (1, .int x1), (2, .int x2), (3, .int x3)] [.int y1, va_rf y0] := by
  intro o x1 x2 x3 y0 y1 w H locs cells slots ls hf M hS hc hs hl
  unfold f_X6_letter_33 at hf
  have ho := pI_e hf
  clear hf
  obtain ⟨a29, w30, e31, k32, q33, hf⟩ := ho
  cases e31
  refine q_putI X M hS flX6_159 (Or.inl rfl) k32 dX6_letter_33 (fun H locs M hS => ?_)
  rw [q33] at M
  refine lv_goto (tgt := 0) X.1 X.2.1 dX6_letter_36 (by decide) ?_
  exact hK0 o x1 x2 x3 w30 _ _ _ _ _ hf M hS (by omega) (by omega) (lv_sub hl [0, 1, 2, 3] rfl)
def f_X6_letter_0 (K39 : Nat → Int32 → Int32 → Int32 → Wd → Option (Int32 × Wd)) : Nat → Nat → Int32 → Int32 → Int32 → Wd → Option (Int32 × Wd)
  | 0, _, _, _, _, _ => none
  | n + 1, o, x1, x2, x3, w => gR w (some o) 7 30 (fun v2 => gI w (some o) 7 48 (fun v7 => aI w v2 102 v7 (fun v12 => if v12 = 0 then (K39 o x1 x2 x3 w) else (gI w (some o) 7 48 (fun v19 => if v19 = 4699 then ((f_X6_letter_33 (f_X6_letter_0 K39 n)) o x1 x2 x3 (some o) 0 w) else (gI w (some o) 7 48 (fun v25 => (f_X6_letter_33 (f_X6_letter_0 K39 n)) o x1 x2 x3 (some o) (v25 + 1) w)))))))
set_option maxHeartbeats 4000000 in
set_option maxRecDepth 100000 in
theorem b_X6_letter_0 {l : Launch} {D : va_G} {aC : Nat → ClassId} {b0 : Nat} {p : Program} {e : Env} {s : State} {m : MethodId} {args : Array Value} {below : List Frame} {meth : Method} {c : Code} (X : Cx D aC p s m args meth c cX6_letter RX6 5 "letter" (some .int)) {res : (Int32 × Wd)} {K39 : Nat → Int32 → Int32 → Int32 → Wd → Option (Int32 × Wd)} (hK39 : ∀ (o : Nat) (x1 : Int32) (x2 : Int32) (x3 : Int32) (w : Wd), BW l D aC b0 p e rX6_letter s m args below meth c (Qe D aC b0 below args s 0 0 (some (.int res.1)) res.2) res 0 0 0 0 (K39 o x1 x2 x3 w) w 39 5 [(0, va_rf (some o)), (1, .int x1), (2, .int x2), (3, .int x3)] []) : ∀ (n : Nat) (o : Nat) (x1 : Int32) (x2 : Int32) (x3 : Int32) (w : Wd), BW l D aC b0 p e rX6_letter s m args below meth c (Qe D aC b0 below args s 0 0 (some (.int res.1)) res.2) res 0 0 0 0 (f_X6_letter_0 K39 n o x1 x2 x3 w) w 0 5 [(0, va_rf (some o)), (1, .int x1), (2, .int x2), (3, .int x3)] [] := by
  intro n
  induction n with
  | zero =>
    intro o x1 x2 x3 w H locs cells slots ls hf
    rw [f_X6_letter_0.eq_1] at hf
    cases hf
  | succ n ih =>
    intro o x1 x2 x3 w H locs cells slots ls hf M hS hc hs hl
    rw [f_X6_letter_0.eq_2] at hf
    refine q_aload_n X dX6_letter_0 rfl (lv_at hl 0 rfl) ?_
    have ho := gR_e hf
    clear hf
    obtain ⟨a1, v2, e3, k4, q5, hf⟩ := ho
    cases e3
    refine q_get X M flX6_81.g k4 (congrArg va_rf q5) dX6_letter_1 ?_
    refine q_aload_n X dX6_letter_4 rfl (lv_at hl 0 rfl) ?_
    have ho := gI_e hf
    clear hf
    obtain ⟨a6, v7, e8, k9, q10, hf⟩ := ho
    cases e8
    refine q_get X M flX6_159.g k9 (congrArg Value.int q10) dX6_letter_5 ?_
    have ho := aI_e hf
    clear hf
    obtain ⟨a11, v12, e13, k14, i15, q16, hf⟩ := ho
    cases e13
    refine q_zald X M k14 i15 dX6_letter_8 ?_
    rw [q16]
    refine lv_if_eq (tgt := 39) X.1 X.2.1 dX6_letter_9 (by decide) (fun c17 => ?_) (fun c17 => ?_)
    · rw [if_pos c17] at hf
      exact hK39 o x1 x2 x3 w _ _ _ _ _ hf M hS (by omega) (by omega) (lv_sub hl [0, 1, 2, 3] rfl)
    · rw [if_neg c17] at hf
      refine q_aload_n X dX6_letter_12 rfl (lv_at hl 0 rfl) ?_
      refine q_aload_n X dX6_letter_13 rfl (lv_at hl 0 rfl) ?_
      have ho := gI_e hf
      clear hf
      obtain ⟨a18, v19, e20, k21, q22, hf⟩ := ho
      cases e20
      refine q_get X M flX6_159.g k21 (congrArg Value.int q22) dX6_letter_14 ?_
      refine lv_sipush (v := 4699) X.1 X.2.1 dX6_letter_17 (by decide) ?_
      refine lv_icmp_ne (tgt := 27) X.1 X.2.1 dX6_letter_20 (by decide) (fun c23 => ?_) (fun c23 => ?_)
      · rw [if_neg c23] at hf
        refine q_aload_n X dX6_letter_27 rfl (lv_at hl 0 rfl) ?_
        have ho := gI_e hf
        clear hf
        obtain ⟨a24, v25, e26, k27, q28, hf⟩ := ho
        cases e26
        refine q_get X M flX6_159.g k27 (congrArg Value.int q28) dX6_letter_28 ?_
        refine lv_iconst (v := 1) X.1 X.2.1 dX6_letter_31 (by decide) ?_
        refine lv_iadd X.1 X.2.1 dX6_letter_32 ?_
        exact (b_X6_letter_33 X ih) o x1 x2 x3 (some o) (v25 + 1) w _ _ _ _ _ hf M hS (by omega) (by omega) (lv_sub hl [0, 1, 2, 3] rfl)
      · rw [if_pos c23] at hf
        refine lv_iconst (v := 0) X.1 X.2.1 dX6_letter_23 (by decide) ?_
        refine lv_goto (tgt := 33) X.1 X.2.1 dX6_letter_24 (by decide) ?_
        exact (b_X6_letter_33 X ih) o x1 x2 x3 (some o) 0 w _ _ _ _ _ hf M hS (by omega) (by omega) (lv_sub hl [0, 1, 2, 3] rfl)
def f_X6_letter_39 (o : Nat) (x1 : Int32) (x2 : Int32) (x3 : Int32) (w : Wd) : Option (Int32 × Wd) := gI w (some o) 7 48 (fun v35 => gR w (some o) 7 30 (fun v40 => tZ w v40 102 v35 1 (fun w45 => gR w45 (some o) 7 31 (fun v52 => tI w45 v52 100 v35 x1 (fun w57 => gR w57 (some o) 7 32 (fun v63 => tI w57 v63 100 v35 x2 (fun w68 => gR w68 (some o) 7 33 (fun v74 => tI w68 v74 100 v35 x3 (fun w79 => gR w79 (some o) 7 34 (fun v85 => tI w79 v85 100 v35 0 (fun w90 => gR w90 (some o) 7 35 (fun v96 => tI w90 v96 100 v35 0 (fun w101 => gR w101 (some o) 7 36 (fun v107 => tI w101 v107 100 v35 0 (fun w112 => gR w112 (some o) 7 37 (fun v118 => tI w112 v118 100 v35 0 (fun w123 => gR w123 (some o) 7 38 (fun v129 => tI w123 v129 100 v35 0 (fun w134 => gR w134 (some o) 7 39 (fun v140 => tL w134 v140 101 v35 0 (fun w145 => gR w145 (some o) 7 40 (fun v151 => tL w145 v151 101 v35 0 (fun w156 => some (v35, w156))))))))))))))))))))))))
set_option maxHeartbeats 4000000 in
set_option maxRecDepth 100000 in
theorem b_X6_letter_39 {l : Launch} {D : va_G} {aC : Nat → ClassId} {b0 : Nat} {p : Program} {e : Env} {s : State} {m : MethodId} {args : Array Value} {below : List Frame} {meth : Method} {c : Code} (X : Cx D aC p s m args meth c cX6_letter RX6 5 "letter" (some .int)) {res : (Int32 × Wd)} : ∀ (o : Nat) (x1 : Int32) (x2 : Int32) (x3 : Int32) (w : Wd), BW l D aC b0 p e rX6_letter s m args below meth c (Qe D aC b0 below args s 0 0 (some (.int res.1)) res.2) res 0 0 0 0 (f_X6_letter_39 o x1 x2 x3 w) w 39 5 [(0, va_rf (some o)), (1, .int x1), (2, .int x2), (3, .int x3)] [] := by
  intro o x1 x2 x3 w H locs cells slots ls hf M hS hc hs hl
  unfold f_X6_letter_39 at hf
  refine q_aload_n X dX6_letter_39 rfl (lv_at hl 0 rfl) ?_
  have ho := gI_e hf
  clear hf
  obtain ⟨a34, v35, e36, k37, q38, hf⟩ := ho
  cases e36
  refine q_get X M flX6_159.g k37 (congrArg Value.int q38) dX6_letter_40 ?_
  refine lv_istore (i := 4) (lv' := [(4, .int v35), (0, va_rf (some o)), (1, .int x1), (2, .int x2), (3, .int x3)]) X.1 X.2.1 dX6_letter_43 hl (by decide) rfl (fun ls hl => ?_)
  refine q_aload_n X dX6_letter_45 rfl (lv_at hl 1 rfl) ?_
  have ho := gR_e hf
  clear hf
  obtain ⟨a39, v40, e41, k42, q43, hf⟩ := ho
  cases e41
  refine q_get X M flX6_81.g k42 (congrArg va_rf q43) dX6_letter_46 ?_
  refine lv_iload X.1 X.2.1 dX6_letter_49 (lv_at hl 0 rfl) ?_
  refine lv_iconst (v := 1) X.1 X.2.1 dX6_letter_51 (by decide) ?_
  have ho := tZ_e hf
  clear hf
  obtain ⟨a44, w45, e46, k47, i48, z50, q49, hf⟩ := ho
  cases e46
  refine q_zast X M hS k47 z50 i48 dX6_letter_52 (fun H locs M hS => ?_)
  rw [q49] at M
  refine q_aload_n X dX6_letter_53 rfl (lv_at hl 1 rfl) ?_
  have ho := gR_e hf
  clear hf
  obtain ⟨a51, v52, e53, k54, q55, hf⟩ := ho
  cases e53
  refine q_get X M flX6_84.g k54 (congrArg va_rf q55) dX6_letter_54 ?_
  refine lv_iload X.1 X.2.1 dX6_letter_57 (lv_at hl 0 rfl) ?_
  refine lv_iload_n X.1 X.2.1 dX6_letter_59 rfl (lv_at hl 2 rfl) ?_
  have ho := tI_e hf
  clear hf
  obtain ⟨a56, w57, e58, k59, i60, q61, hf⟩ := ho
  cases e58
  refine q_iast X M hS k59 i60 dX6_letter_60 (fun H locs M hS => ?_)
  rw [q61] at M
  refine q_aload_n X dX6_letter_61 rfl (lv_at hl 1 rfl) ?_
  have ho := gR_e hf
  clear hf
  obtain ⟨a62, v63, e64, k65, q66, hf⟩ := ho
  cases e64
  refine q_get X M flX6_87.g k65 (congrArg va_rf q66) dX6_letter_62 ?_
  refine lv_iload X.1 X.2.1 dX6_letter_65 (lv_at hl 0 rfl) ?_
  refine lv_iload_n X.1 X.2.1 dX6_letter_67 rfl (lv_at hl 3 rfl) ?_
  have ho := tI_e hf
  clear hf
  obtain ⟨a67, w68, e69, k70, i71, q72, hf⟩ := ho
  cases e69
  refine q_iast X M hS k70 i71 dX6_letter_68 (fun H locs M hS => ?_)
  rw [q72] at M
  refine q_aload_n X dX6_letter_69 rfl (lv_at hl 1 rfl) ?_
  have ho := gR_e hf
  clear hf
  obtain ⟨a73, v74, e75, k76, q77, hf⟩ := ho
  cases e75
  refine q_get X M flX6_90.g k76 (congrArg va_rf q77) dX6_letter_70 ?_
  refine lv_iload X.1 X.2.1 dX6_letter_73 (lv_at hl 0 rfl) ?_
  refine lv_iload_n X.1 X.2.1 dX6_letter_75 rfl (lv_at hl 4 rfl) ?_
  have ho := tI_e hf
  clear hf
  obtain ⟨a78, w79, e80, k81, i82, q83, hf⟩ := ho
  cases e80
  refine q_iast X M hS k81 i82 dX6_letter_76 (fun H locs M hS => ?_)
  rw [q83] at M
  refine q_aload_n X dX6_letter_77 rfl (lv_at hl 1 rfl) ?_
  have ho := gR_e hf
  clear hf
  obtain ⟨a84, v85, e86, k87, q88, hf⟩ := ho
  cases e86
  refine q_get X M flX6_93.g k87 (congrArg va_rf q88) dX6_letter_78 ?_
  refine lv_iload X.1 X.2.1 dX6_letter_81 (lv_at hl 0 rfl) ?_
  refine lv_iconst (v := 0) X.1 X.2.1 dX6_letter_83 (by decide) ?_
  have ho := tI_e hf
  clear hf
  obtain ⟨a89, w90, e91, k92, i93, q94, hf⟩ := ho
  cases e91
  refine q_iast X M hS k92 i93 dX6_letter_84 (fun H locs M hS => ?_)
  rw [q94] at M
  refine q_aload_n X dX6_letter_85 rfl (lv_at hl 1 rfl) ?_
  have ho := gR_e hf
  clear hf
  obtain ⟨a95, v96, e97, k98, q99, hf⟩ := ho
  cases e97
  refine q_get X M flX6_96.g k98 (congrArg va_rf q99) dX6_letter_86 ?_
  refine lv_iload X.1 X.2.1 dX6_letter_89 (lv_at hl 0 rfl) ?_
  refine lv_iconst (v := 0) X.1 X.2.1 dX6_letter_91 (by decide) ?_
  have ho := tI_e hf
  clear hf
  obtain ⟨a100, w101, e102, k103, i104, q105, hf⟩ := ho
  cases e102
  refine q_iast X M hS k103 i104 dX6_letter_92 (fun H locs M hS => ?_)
  rw [q105] at M
  refine q_aload_n X dX6_letter_93 rfl (lv_at hl 1 rfl) ?_
  have ho := gR_e hf
  clear hf
  obtain ⟨a106, v107, e108, k109, q110, hf⟩ := ho
  cases e108
  refine q_get X M flX6_99.g k109 (congrArg va_rf q110) dX6_letter_94 ?_
  refine lv_iload X.1 X.2.1 dX6_letter_97 (lv_at hl 0 rfl) ?_
  refine lv_iconst (v := 0) X.1 X.2.1 dX6_letter_99 (by decide) ?_
  have ho := tI_e hf
  clear hf
  obtain ⟨a111, w112, e113, k114, i115, q116, hf⟩ := ho
  cases e113
  refine q_iast X M hS k114 i115 dX6_letter_100 (fun H locs M hS => ?_)
  rw [q116] at M
  refine q_aload_n X dX6_letter_101 rfl (lv_at hl 1 rfl) ?_
  have ho := gR_e hf
  clear hf
  obtain ⟨a117, v118, e119, k120, q121, hf⟩ := ho
  cases e119
  refine q_get X M flX6_102.g k120 (congrArg va_rf q121) dX6_letter_102 ?_
  refine lv_iload X.1 X.2.1 dX6_letter_105 (lv_at hl 0 rfl) ?_
  refine lv_iconst (v := 0) X.1 X.2.1 dX6_letter_107 (by decide) ?_
  have ho := tI_e hf
  clear hf
  obtain ⟨a122, w123, e124, k125, i126, q127, hf⟩ := ho
  cases e124
  refine q_iast X M hS k125 i126 dX6_letter_108 (fun H locs M hS => ?_)
  rw [q127] at M
  refine q_aload_n X dX6_letter_109 rfl (lv_at hl 1 rfl) ?_
  have ho := gR_e hf
  clear hf
  obtain ⟨a128, v129, e130, k131, q132, hf⟩ := ho
  cases e130
  refine q_get X M flX6_105.g k131 (congrArg va_rf q132) dX6_letter_110 ?_
  refine lv_iload X.1 X.2.1 dX6_letter_113 (lv_at hl 0 rfl) ?_
  refine lv_iconst (v := 0) X.1 X.2.1 dX6_letter_115 (by decide) ?_
  have ho := tI_e hf
  clear hf
  obtain ⟨a133, w134, e135, k136, i137, q138, hf⟩ := ho
  cases e135
  refine q_iast X M hS k136 i137 dX6_letter_116 (fun H locs M hS => ?_)
  rw [q138] at M
  refine q_aload_n X dX6_letter_117 rfl (lv_at hl 1 rfl) ?_
  have ho := gR_e hf
  clear hf
  obtain ⟨a139, v140, e141, k142, q143, hf⟩ := ho
  cases e141
  refine q_get X M flX6_108.g k142 (congrArg va_rf q143) dX6_letter_118 ?_
  refine lv_iload X.1 X.2.1 dX6_letter_121 (lv_at hl 0 rfl) ?_
  refine lv_lconst (v := 0) X.1 X.2.1 dX6_letter_123 (by decide) ?_
  have ho := tL_e hf
  clear hf
  obtain ⟨a144, w145, e146, k147, i148, q149, hf⟩ := ho
  cases e146
  refine q_last X M hS k147 i148 dX6_letter_124 (fun H locs M hS => ?_)
  rw [q149] at M
  refine q_aload_n X dX6_letter_125 rfl (lv_at hl 1 rfl) ?_
  have ho := gR_e hf
  clear hf
  obtain ⟨a150, v151, e152, k153, q154, hf⟩ := ho
  cases e152
  refine q_get X M flX6_111.g k153 (congrArg va_rf q154) dX6_letter_126 ?_
  refine lv_iload X.1 X.2.1 dX6_letter_129 (lv_at hl 0 rfl) ?_
  refine lv_lconst (v := 0) X.1 X.2.1 dX6_letter_131 (by decide) ?_
  have ho := tL_e hf
  clear hf
  obtain ⟨a155, w156, e157, k158, i159, q160, hf⟩ := ho
  cases e157
  refine q_last X M hS k158 i159 dX6_letter_132 (fun H locs M hS => ?_)
  rw [q160] at M
  refine lv_iload X.1 X.2.1 dX6_letter_133 (lv_at hl 0 rfl) ?_
  obtain rfl := Option.some.inj hf
  exact q_iret X M hS (by omega) (by omega) dX6_letter_135
def f_X6_letter (o : Nat) (x1 : Int32) (x2 : Int32) (x3 : Int32) (w : Wd) : Option (Int32 × Wd) := (f_X6_letter_0 (f_X6_letter_39) FU) o x1 x2 x3 w
set_option maxHeartbeats 4000000 in
set_option maxRecDepth 100000 in
theorem e_X6_letter {l : Launch} {D : va_G} {aC : Nat → ClassId} {b0 : Nat} {p : Program} {e : Env} {s : State} {m : MethodId} {args : Array Value} {below : List Frame} {meth : Method} {c : Code} (X : Cx D aC p s m args meth c cX6_letter RX6 5 "letter" (some .int)) {res : (Int32 × Wd)} (o : Nat) (x1 : Int32) (x2 : Int32) (x3 : Int32) (w : Wd) : BW l D aC b0 p e rX6_letter s m args below meth c (Qe D aC b0 below args s 0 0 (some (.int res.1)) res.2) res 0 0 0 0 (f_X6_letter o x1 x2 x3 w) w 0 5 [(0, va_rf (some o)), (1, .int x1), (2, .int x2), (3, .int x3)] [] := by
  intro H locs cells slots ls hf M hS hc hs hl
  unfold f_X6_letter at hf
  exact (b_X6_letter_0 X (b_X6_letter_39 X) FU) o x1 x2 x3 w _ _ _ _ _ hf M hS (by omega) (by omega) (lv_sub hl [0, 1, 2, 3] rfl)
theorem m_X6_letter {l : Launch} {D : va_G} {aC : Nat → ClassId} {b0 : Nat} {w : Wd} (o : Nat) (x1 : Int32) (x2 : Int32) (x3 : Int32) (v : Int32) (w' : Wd) (hf : f_X6_letter o x1 x2 x3 w = some (v, w')) : Ct l D aC b0 yX6_letter (Cond.code yX6_letter cX6_letter 5 (some .int) :: Gw) rX6_letter [va_rf (some o), .int x1, .int x2, .int x3] w (some (.int v)) w' :=
  q_met (by decide) (Nat.le_of_ble_eq_true rfl) (fun p e s m below meth c X M ls hl => e_X6_letter X (res := (v, w')) o x1 x2 x3 w s.heap [] 0 0 ls hf M va_S.rf (by decide) (by decide) hl)
