def f_L_law_945 (xs : Nat → Int32) (L : Nat) (K38 : Option Nat → Option Nat → Int32 → Wd → Option (Unit × Wd)) (x1 : Option Nat) (x2 : Option Nat) (x3 : Int32) (w : Wd) : Option (Unit × Wd) := K38 x1 x2 (x3 + 8) w
set_option maxHeartbeats 4000000 in
set_option maxRecDepth 100000 in
theorem b_L_law_945 {l : Launch} {D : va_G} {aC : Nat → ClassId} {p : Program} {e : Env} {s : State} {m : MethodId} {below : List Frame} {meth : Method} {c : Code} {nm : String} {b L : Nat} {xs : Nat → Int32} (hX : va_X b L xs s s.heap) (hbl : b < s.heap.size) (hbA : ¬ (Fb s.heap.size) b) (X : Cx D aC p s m #[Value.ref b] meth c cL_law RL 4 nm (some .boolean)) {res : (Unit × Wd)} {nn : Nat} {K38 : Option Nat → Option Nat → Int32 → Wd → Option (Unit × Wd)} (hK38 : ∀ (x1 : Option Nat) (x2 : Option Nat) (x3 : Int32) (w : Wd), BW l D aC s.heap.size p e room_1 s m #[Value.ref b] below meth c (lw_Z below #[Value.ref b] s) res 600000 7302249 (nn * 9 + 0) (nn * 90 + 0) (K38 x1 x2 x3 w) w 38 4 [(0, va_rf (some b)), (1, va_rf x1), (2, va_rf x2), (3, .int x3)] []) : ∀ (x1 : Option Nat) (x2 : Option Nat) (x3 : Int32) (w : Wd), BW l D aC s.heap.size p e room_1 s m #[Value.ref b] below meth c (lw_Z below #[Value.ref b] s) res 600000 7302249 (nn * 9 + 0) (nn * 90 + 0) (f_L_law_945 xs L K38 x1 x2 x3 w) w 945 4 [(0, va_rf (some b)), (1, va_rf x1), (2, va_rf x2), (3, .int x3)] [] := by
  intro x1 x2 x3 w H locs cells slots ls hf M hS hc hs hl
  unfold f_L_law_945 at hf
  refine lv_iinc (v := (x3 + 8)) (lv' := [(3, .int (x3 + 8)), (0, va_rf (some b)), (1, va_rf x1), (2, va_rf x2)]) X.1 X.2.1 dL_law_945 hl (k := 3) rfl rfl (by decide) (by simp [cat1, cati, catl]) (fun ls hl => ?_)
  refine lv_goto (tgt := 38) X.1 X.2.1 dL_law_948 (by decide) ?_
  exact hK38 x1 x2 (x3 + 8) w _ _ _ _ _ hf M hS (by omega) (by omega) (lv_sub hl [1, 2, 3, 0] rfl)
def f_L_law_38 (xs : Nat → Int32) (L : Nat) : Nat → Option Nat → Option Nat → Int32 → Wd → Option (Unit × Wd)
  | 0, _, _, _, _ => none
  | n + 1, x1, x2, x3, w => if ((Int32.ofNat L) - 8) < x3 then (some ((), w)) else (rdS xs L x3 (fun v12 => if (v12 &&& 31) = 0 then (rdS xs L (x3 + 1) (fun v16 => chk w x1 6 (fun a22 => bnd (f_X5_open a22 v16 w) (fun v19 w20 => rdS xs L (x3 + 1) (fun v25 => chk w20 x2 7 (fun a31 => bnd (f_X6_open a31 v25 w20) (fun v28 w29 => if v19 = v28 then ((f_L_law_945 xs L (f_L_law_38 xs L n)) x1 x2 x3 w29) else (none)))))))) else if (v12 &&& 31) = 1 then (rdS xs L (x3 + 1) (fun v36 => chk w x1 6 (fun a42 => bnd (f_X5_renew a42 v36 w) (fun v39 w40 => rdS xs L (x3 + 1) (fun v45 => chk w40 x2 7 (fun a51 => bnd (f_X6_renew a51 v45 w40) (fun v48 w49 => if v39 = v48 then ((f_L_law_945 xs L (f_L_law_38 xs L n)) x1 x2 x3 w49) else (none)))))))) else if (v12 &&& 31) = 2 then (rdS xs L (x3 + 1) (fun v56 => rdS xs L (x3 + 2) (fun v59 => rdS xs L (x3 + 3) (fun v62 => rdS xs L (x3 + 4) (fun v65 => rdS xs L (x3 + 5) (fun v68 => rdS xs L (x3 + 6) (fun v71 => rdS xs L (x3 + 7) (fun v74 => chk w x1 6 (fun a80 => bnd (f_X5_call a80 v56 v59 v62 (((v65.toInt64) <<< (Int32.toInt64 32 &&& 63)) ||| ((v68.toInt64) &&& 4294967295)) (((v71.toInt64) <<< (Int32.toInt64 32 &&& 63)) ||| ((v74.toInt64) &&& 4294967295)) w) (fun v77 w78 => rdS xs L (x3 + 1) (fun v83 => rdS xs L (x3 + 2) (fun v86 => rdS xs L (x3 + 3) (fun v89 => rdS xs L (x3 + 4) (fun v92 => rdS xs L (x3 + 5) (fun v95 => rdS xs L (x3 + 6) (fun v98 => rdS xs L (x3 + 7) (fun v101 => chk w78 x2 7 (fun a107 => bnd (f_X6_call a107 v83 v86 v89 (((v92.toInt64) <<< (Int32.toInt64 32 &&& 63)) ||| ((v95.toInt64) &&& 4294967295)) (((v98.toInt64) <<< (Int32.toInt64 32 &&& 63)) ||| ((v101.toInt64) &&& 4294967295)) w78) (fun v104 w105 => if v77 = v104 then ((f_L_law_945 xs L (f_L_law_38 xs L n)) x1 x2 x3 w105) else (none)))))))))))))))))))) else if (v12 &&& 31) = 3 then (rdS xs L (x3 + 1) (fun v112 => rdS xs L (x3 + 2) (fun v115 => chk w x1 6 (fun a121 => bnd (f_X5_retry a121 v112 v115 w) (fun v118 w119 => rdS xs L (x3 + 1) (fun v124 => rdS xs L (x3 + 2) (fun v127 => chk w119 x2 7 (fun a133 => bnd (f_X6_retry a133 v124 v127 w119) (fun v130 w131 => if v118 = v130 then ((f_L_law_945 xs L (f_L_law_38 xs L n)) x1 x2 x3 w131) else (none)))))))))) else if (v12 &&& 31) = 4 then (rdS xs L (x3 + 1) (fun v138 => rdS xs L (x3 + 2) (fun v141 => chk w x1 6 (fun a147 => bnd (f_X5_ack a147 v138 v141 w) (fun v144 w145 => rdS xs L (x3 + 1) (fun v150 => rdS xs L (x3 + 2) (fun v153 => chk w145 x2 7 (fun a159 => bnd (f_X6_ack a159 v150 v153 w145) (fun v156 w157 => if v144 = v156 then ((f_L_law_945 xs L (f_L_law_38 xs L n)) x1 x2 x3 w157) else (none)))))))))) else if (v12 &&& 31) = 5 then (rdS xs L (x3 + 1) (fun v164 => chk w x1 6 (fun a170 => bnd (f_X5_deliver a170 v164 w) (fun v167 w168 => rdS xs L (x3 + 1) (fun v173 => chk w168 x2 7 (fun a179 => bnd (f_X6_deliver a179 v173 w168) (fun v176 w177 => if v167 = v176 then ((f_L_law_945 xs L (f_L_law_38 xs L n)) x1 x2 x3 w177) else (none)))))))) else if (v12 &&& 31) = 6 then (rdS xs L (x3 + 1) (fun v184 => chk w x1 6 (fun a190 => bnd (f_X5_drop a190 v184 w) (fun v187 w188 => rdS xs L (x3 + 1) (fun v193 => chk w188 x2 7 (fun a199 => bnd (f_X6_drop a199 v193 w188) (fun v196 w197 => if v187 = v196 then ((f_L_law_945 xs L (f_L_law_38 xs L n)) x1 x2 x3 w197) else (none)))))))) else if (v12 &&& 31) = 7 then (rdS xs L (x3 + 1) (fun v204 => chk w x1 6 (fun a210 => bnd (f_X5_twin a210 v204 w) (fun v207 w208 => rdS xs L (x3 + 1) (fun v213 => chk w208 x2 7 (fun a219 => bnd (f_X6_twin a219 v213 w208) (fun v216 w217 => if v207 = v216 then ((f_L_law_945 xs L (f_L_law_38 xs L n)) x1 x2 x3 w217) else (none)))))))) else if (v12 &&& 31) = 8 then (rdS xs L (x3 + 1) (fun v224 => chk w x1 6 (fun a230 => bnd (f_X5_sync a230 v224 w) (fun v227 w228 => rdS xs L (x3 + 1) (fun v233 => chk w228 x2 7 (fun a239 => bnd (f_X6_sync a239 v233 w228) (fun v236 w237 => if v227 = v236 then ((f_L_law_945 xs L (f_L_law_38 xs L n)) x1 x2 x3 w237) else (none)))))))) else if (v12 &&& 31) = 9 then (rdS xs L (x3 + 1) (fun v244 => chk w x1 6 (fun a250 => bnd (f_X5_crash a250 v244 w) (fun v247 w248 => rdS xs L (x3 + 1) (fun v253 => chk w248 x2 7 (fun a259 => bnd (f_X6_crash a259 v253 w248) (fun v256 w257 => if v247 = v256 then ((f_L_law_945 xs L (f_L_law_38 xs L n)) x1 x2 x3 w257) else (none)))))))) else if (v12 &&& 31) = 10 then (rdS xs L (x3 + 1) (fun v264 => chk w x1 6 (fun a270 => bnd (f_X5_start a270 v264 w) (fun v267 w268 => rdS xs L (x3 + 1) (fun v273 => chk w268 x2 7 (fun a279 => bnd (f_X6_start a279 v273 w268) (fun v276 w277 => if v267 = v276 then ((f_L_law_945 xs L (f_L_law_38 xs L n)) x1 x2 x3 w277) else (none)))))))) else if (v12 &&& 31) = 11 then (rdS xs L (x3 + 1) (fun v284 => rdS xs L (x3 + 2) (fun v287 => rdS xs L (x3 + 3) (fun v290 => chk w x1 6 (fun a296 => bnd (f_X5_move a296 v284 v287 v290 w) (fun v293 w294 => rdS xs L (x3 + 1) (fun v299 => rdS xs L (x3 + 2) (fun v302 => rdS xs L (x3 + 3) (fun v305 => chk w294 x2 7 (fun a311 => bnd (f_X6_move a311 v299 v302 v305 w294) (fun v308 w309 => if v293 = v308 then ((f_L_law_945 xs L (f_L_law_38 xs L n)) x1 x2 x3 w309) else (none)))))))))))) else if (v12 &&& 31) = 12 then (rdS xs L (x3 + 1) (fun v316 => chk w x1 6 (fun a322 => bnd (f_X5_collect a322 v316 w) (fun v319 w320 => rdS xs L (x3 + 1) (fun v325 => chk w320 x2 7 (fun a331 => bnd (f_X6_collect a331 v325 w320) (fun v328 w329 => if v319 = v328 then ((f_L_law_945 xs L (f_L_law_38 xs L n)) x1 x2 x3 w329) else (none)))))))) else if (v12 &&& 31) = 13 then (rdS xs L (x3 + 1) (fun v336 => chk w x1 6 (fun a342 => bnd (f_X5_ticks a342 v336 w) (fun v339 w340 => rdS xs L (x3 + 1) (fun v345 => chk w340 x2 7 (fun a351 => bnd (f_X6_ticks a351 v345 w340) (fun v348 w349 => if v339 = v348 then ((f_L_law_945 xs L (f_L_law_38 xs L n)) x1 x2 x3 w349) else (none)))))))) else if (v12 &&& 31) = 14 then (rdS xs L (x3 + 1) (fun v356 => rdS xs L (x3 + 2) (fun v359 => chk w x1 6 (fun a365 => bnd (f_X5_server a365 v356 v359 w) (fun v362 w363 => rdS xs L (x3 + 1) (fun v368 => rdS xs L (x3 + 2) (fun v371 => chk w363 x2 7 (fun a377 => bnd (f_X6_server a377 v368 v371 w363) (fun v374 w375 => if v362 = v374 then ((f_L_law_945 xs L (f_L_law_38 xs L n)) x1 x2 x3 w375) else (none)))))))))) else if (v12 &&& 31) = 15 then (rdS xs L (x3 + 1) (fun v382 => rdS xs L (x3 + 2) (fun v385 => rdS xs L (x3 + 3) (fun v388 => chk w x1 6 (fun a394 => bnd (f_X5_bucket a394 v382 v385 v388 w) (fun v391 w392 => rdS xs L (x3 + 1) (fun v397 => rdS xs L (x3 + 2) (fun v400 => rdS xs L (x3 + 3) (fun v403 => chk w392 x2 7 (fun a409 => bnd (f_X6_bucket a409 v397 v400 v403 w392) (fun v406 w407 => if v391 = v406 then ((f_L_law_945 xs L (f_L_law_38 xs L n)) x1 x2 x3 w407) else (none)))))))))))) else if (v12 &&& 31) = 16 then (rdS xs L (x3 + 1) (fun v414 => rdS xs L (x3 + 2) (fun v417 => chk w x1 6 (fun a423 => bnd (f_X5_value a423 v414 v417 w) (fun v420 w421 => rdS xs L (x3 + 1) (fun v426 => rdS xs L (x3 + 2) (fun v429 => chk w421 x2 7 (fun a435 => bnd (f_X6_value a435 v426 v429 w421) (fun v432 w433 => if (lg_cmp v420 v432) = 0 then ((f_L_law_945 xs L (f_L_law_38 xs L n)) x1 x2 x3 w433) else (none)))))))))) else if (v12 &&& 31) = 17 then (rdS xs L (x3 + 1) (fun v440 => rdS xs L (x3 + 2) (fun v443 => rdS xs L (x3 + 3) (fun v446 => rdS xs L (x3 + 4) (fun v449 => chk w x1 6 (fun a455 => bnd (f_X5_record a455 v440 v443 v446 v449 w) (fun v452 w453 => rdS xs L (x3 + 1) (fun v458 => rdS xs L (x3 + 2) (fun v461 => rdS xs L (x3 + 3) (fun v464 => rdS xs L (x3 + 4) (fun v467 => chk w453 x2 7 (fun a473 => bnd (f_X6_record a473 v458 v461 v464 v467 w453) (fun v470 w471 => if v452 = v470 then ((f_L_law_945 xs L (f_L_law_38 xs L n)) x1 x2 x3 w471) else (none)))))))))))))) else if (v12 &&& 31) = 18 then (rdS xs L (x3 + 1) (fun v478 => rdS xs L (x3 + 2) (fun v481 => chk w x1 6 (fun a487 => bnd (f_X5_client a487 v478 v481 w) (fun v484 w485 => rdS xs L (x3 + 1) (fun v490 => rdS xs L (x3 + 2) (fun v493 => chk w485 x2 7 (fun a499 => bnd (f_X6_client a499 v490 v493 w485) (fun v496 w497 => if v484 = v496 then ((f_L_law_945 xs L (f_L_law_38 xs L n)) x1 x2 x3 w497) else (none)))))))))) else if (v12 &&& 31) = 19 then (rdS xs L (x3 + 1) (fun v504 => rdS xs L (x3 + 2) (fun v507 => chk w x1 6 (fun a513 => bnd (f_X5_state a513 v504 v507 w) (fun v510 w511 => rdS xs L (x3 + 1) (fun v516 => rdS xs L (x3 + 2) (fun v519 => chk w511 x2 7 (fun a525 => bnd (f_X6_state a525 v516 v519 w511) (fun v522 w523 => if v510 = v522 then ((f_L_law_945 xs L (f_L_law_38 xs L n)) x1 x2 x3 w523) else (none)))))))))) else if (v12 &&& 31) = 20 then (rdS xs L (x3 + 1) (fun v530 => rdS xs L (x3 + 2) (fun v533 => chk w x1 6 (fun a539 => bnd (f_X5_result a539 v530 v533 w) (fun v536 w537 => rdS xs L (x3 + 1) (fun v542 => rdS xs L (x3 + 2) (fun v545 => chk w537 x2 7 (fun a551 => bnd (f_X6_result a551 v542 v545 w537) (fun v548 w549 => if (lg_cmp v536 v548) = 0 then ((f_L_law_945 xs L (f_L_law_38 xs L n)) x1 x2 x3 w549) else (none)))))))))) else if (v12 &&& 31) = 21 then (rdS xs L (x3 + 1) (fun v556 => rdS xs L (x3 + 2) (fun v559 => chk w x1 6 (fun a565 => bnd (f_X5_letter a565 v556 v559 w) (fun v562 w563 => rdS xs L (x3 + 1) (fun v568 => rdS xs L (x3 + 2) (fun v571 => chk w563 x2 7 (fun a577 => bnd (f_X6_letter_ a577 v568 v571 w563) (fun v574 w575 => if v562 = v574 then ((f_L_law_945 xs L (f_L_law_38 xs L n)) x1 x2 x3 w575) else (none)))))))))) else if (v12 &&& 31) = 22 then (rdS xs L (x3 + 1) (fun v582 => chk w x1 6 (fun a588 => bnd (f_X5_count a588 v582 w) (fun v585 w586 => rdS xs L (x3 + 1) (fun v591 => chk w586 x2 7 (fun a597 => bnd (f_X6_count a597 v591 w586) (fun v594 w595 => if v585 = v594 then ((f_L_law_945 xs L (f_L_law_38 xs L n)) x1 x2 x3 w595) else (none)))))))) else ((f_L_law_945 xs L (f_L_law_38 xs L n)) x1 x2 x3 w)))
set_option maxHeartbeats 4000000 in
set_option maxRecDepth 100000 in
theorem b_L_law_38 {l : Launch} {D : va_G} {aC : Nat → ClassId} {p : Program} {e : Env} {s : State} {m : MethodId} {below : List Frame} {meth : Method} {c : Code} {nm : String} {b L : Nat} {xs : Nat → Int32} (hX : va_X b L xs s s.heap) (hbl : b < s.heap.size) (hbA : ¬ (Fb s.heap.size) b) (X : Cx D aC p s m #[Value.ref b] meth c cL_law RL 4 nm (some .boolean)) {res : (Unit × Wd)} : ∀ (n : Nat) (x1 : Option Nat) (x2 : Option Nat) (x3 : Int32) (w : Wd), BW l D aC s.heap.size p e room_1 s m #[Value.ref b] below meth c (lw_Z below #[Value.ref b] s) res 600000 7302249 (n * 9 + 0) (n * 90 + 0) (f_L_law_38 xs L n x1 x2 x3 w) w 38 4 [(0, va_rf (some b)), (1, va_rf x1), (2, va_rf x2), (3, .int x3)] [] := by
  intro n
  induction n with
  | zero =>
    intro x1 x2 x3 w H locs cells slots ls hf
    rw [f_L_law_38.eq_1] at hf
    cases hf
  | succ n ih =>
    intro x1 x2 x3 w H locs cells slots ls hf M hS hc hs hl
    rw [f_L_law_38.eq_2] at hf
    refine lv_iload_n X.1 X.2.1 dL_law_38 rfl (lv_at hl 3 rfl) ?_
    refine q_aload_n X dL_law_39 rfl (lv_at hl 0 rfl) ?_
    refine va_slen X.1 X.2.1 hX hbl hbA hS dL_law_40 ?_
    refine lv_bipush (v := 8) X.1 X.2.1 dL_law_41 (by decide) ?_
    refine lv_isub X.1 X.2.1 dL_law_43 ?_
    refine lv_icmp_gt (tgt := 951) X.1 X.2.1 dL_law_44 (by decide) (fun c11 => ?_) (fun c11 => ?_)
    · rw [if_pos c11] at hf
      refine lv_iconst (v := 1) X.1 X.2.1 dL_law_951 (by decide) ?_
      obtain rfl := Option.some.inj hf
      refine va_forget (fun q hq => hS.2.2 q hq) ?_
      refine W.widen (k := 600000) (n := 7302249) (by omega) (by omega) ?_
      exact lw_ret X.1 X.2.1 X.2.2.2.2.2.2.1 X.2.2.2.2.1 dL_law_952
    · rw [if_neg c11] at hf
      refine q_aload_n X dL_law_47 rfl (lv_at hl 0 rfl) ?_
      refine lv_iload_n X.1 X.2.1 dL_law_48 rfl (lv_at hl 3 rfl) ?_
      have ho := rdS_e hf
      clear hf
      obtain ⟨v12, i13, q14, hf⟩ := ho
      refine va_sld X.1 X.2.1 hX hbl hbA hS i13 dL_law_49 ?_
      rw [q14]
      refine lv_bipush (v := 31) X.1 X.2.1 dL_law_50 (by decide) ?_
      refine lv_iand X.1 X.2.1 dL_law_52 ?_
      by_cases c15 : (v12 &&& 31) = 0
      · rw [if_pos c15] at hf
        refine lv_tableIn (tgt := 160) (off := 107) X.1 X.2.1 dL_law_53 (by rw [c15]; decide) (by rw [c15]; decide) (by rw [c15]; rfl) (by decide) ?_
        refine q_aload_n X dL_law_160 rfl (lv_at hl 1 rfl) ?_
        refine q_aload_n X dL_law_161 rfl (lv_at hl 0 rfl) ?_
        refine lv_iload_n X.1 X.2.1 dL_law_162 rfl (lv_at hl 3 rfl) ?_
        refine lv_iconst (v := 1) X.1 X.2.1 dL_law_163 (by decide) ?_
        refine lv_iadd X.1 X.2.1 dL_law_164 ?_
        have ho := rdS_e hf
        clear hf
        obtain ⟨v16, i17, q18, hf⟩ := ho
        refine va_sld X.1 X.2.1 hX hbl hbA hS i17 dL_law_165 ?_
        rw [q18]
        have ho := chk_e hf
        clear hf
        obtain ⟨a22, e23, k24, hf⟩ := ho
        cases e23
        have ho := bnd_e hf
        clear hf
        obtain ⟨v19, w20, q21, hf⟩ := ho
        refine q_cV X M hS hl.1 (ci := 5) (r := (RX5, TX5, 9)) (As := [.int v16]) (m_X5_open a22 v16 _ _ q21) mlL_21 gm_149 gm_150 rfl (by decide) k24 rfl ⟨(Nat.le_of_ble_eq_true rfl), (Nat.le_of_ble_eq_true rfl)⟩ (rest := []) rfl (Nat.le_of_ble_eq_true rfl) (mc := 0) (ms := 0) (MC := 600000) (MS := 7302249) rfl rfl rfl rfl (by omega) (by omega) dL_law_166 (st2 := [.int v19]) rfl (fun H locs M hS => ?_)
        refine q_aload_n X dL_law_169 rfl (lv_at hl 2 rfl) ?_
        refine q_aload_n X dL_law_170 rfl (lv_at hl 0 rfl) ?_
        refine lv_iload_n X.1 X.2.1 dL_law_171 rfl (lv_at hl 3 rfl) ?_
        refine lv_iconst (v := 1) X.1 X.2.1 dL_law_172 (by decide) ?_
        refine lv_iadd X.1 X.2.1 dL_law_173 ?_
        have ho := rdS_e hf
        clear hf
        obtain ⟨v25, i26, q27, hf⟩ := ho
        refine va_sld X.1 X.2.1 hX hbl hbA hS i26 dL_law_174 ?_
        rw [q27]
        have ho := chk_e hf
        clear hf
        obtain ⟨a31, e32, k33, hf⟩ := ho
        cases e32
        have ho := bnd_e hf
        clear hf
        obtain ⟨v28, w29, q30, hf⟩ := ho
        refine q_cV X M hS hl.1 (ci := 6) (r := (RX6, TX6, 53)) (As := [.int v25]) (m_X6_open a31 v25 _ _ q30) mlL_25 gm_162 gm_163 rfl (by decide) k33 rfl ⟨(Nat.le_of_ble_eq_true rfl), (Nat.le_of_ble_eq_true rfl)⟩ (rest := [.int v19]) rfl (Nat.le_of_ble_eq_true rfl) (mc := 0) (ms := 0) (MC := 600000) (MS := 7302249) rfl rfl rfl rfl (by omega) (by omega) dL_law_175 (st2 := [.int v28, .int v19]) rfl (fun H locs M hS => ?_)
        refine lv_icmp_eq (tgt := 945) X.1 X.2.1 dL_law_178 (by decide) (fun c34 => ?_) (fun c34 => ?_)
        · rw [if_pos c34] at hf
          exact (b_L_law_945 (nn := n) hX hbl hbA X ih) (some a22) (some a31) x3 w29 _ _ _ _ _ hf M hS (by omega) (by omega) (lv_sub hl [0, 1, 2, 3] rfl)
        · rw [if_neg c34] at hf
          refine lv_iconst (v := 0) X.1 X.2.1 dL_law_181 (by decide) ?_
          cases hf
      rw [if_neg c15] at hf
      by_cases c35 : (v12 &&& 31) = 1
      · rw [if_pos c35] at hf
        refine lv_tableIn (tgt := 183) (off := 130) X.1 X.2.1 dL_law_53 (by rw [c35]; decide) (by rw [c35]; decide) (by rw [c35]; rfl) (by decide) ?_
        refine q_aload_n X dL_law_183 rfl (lv_at hl 1 rfl) ?_
        refine q_aload_n X dL_law_184 rfl (lv_at hl 0 rfl) ?_
        refine lv_iload_n X.1 X.2.1 dL_law_185 rfl (lv_at hl 3 rfl) ?_
        refine lv_iconst (v := 1) X.1 X.2.1 dL_law_186 (by decide) ?_
        refine lv_iadd X.1 X.2.1 dL_law_187 ?_
        have ho := rdS_e hf
        clear hf
        obtain ⟨v36, i37, q38, hf⟩ := ho
        refine va_sld X.1 X.2.1 hX hbl hbA hS i37 dL_law_188 ?_
        rw [q38]
        have ho := chk_e hf
        clear hf
        obtain ⟨a42, e43, k44, hf⟩ := ho
        cases e43
        have ho := bnd_e hf
        clear hf
        obtain ⟨v39, w40, q41, hf⟩ := ho
        refine q_cV X M hS hl.1 (ci := 5) (r := (RX5, TX5, 9)) (As := [.int v36]) (m_X5_renew a42 v36 _ _ q41) mlL_26 gm_174 gm_175 rfl (by decide) k44 rfl ⟨(Nat.le_of_ble_eq_true rfl), (Nat.le_of_ble_eq_true rfl)⟩ (rest := []) rfl (Nat.le_of_ble_eq_true rfl) (mc := 0) (ms := 0) (MC := 600000) (MS := 7302249) rfl rfl rfl rfl (by omega) (by omega) dL_law_189 (st2 := [.int v39]) rfl (fun H locs M hS => ?_)
        refine q_aload_n X dL_law_192 rfl (lv_at hl 2 rfl) ?_
        refine q_aload_n X dL_law_193 rfl (lv_at hl 0 rfl) ?_
        refine lv_iload_n X.1 X.2.1 dL_law_194 rfl (lv_at hl 3 rfl) ?_
        refine lv_iconst (v := 1) X.1 X.2.1 dL_law_195 (by decide) ?_
        refine lv_iadd X.1 X.2.1 dL_law_196 ?_
        have ho := rdS_e hf
        clear hf
        obtain ⟨v45, i46, q47, hf⟩ := ho
        refine va_sld X.1 X.2.1 hX hbl hbA hS i46 dL_law_197 ?_
        rw [q47]
        have ho := chk_e hf
        clear hf
        obtain ⟨a51, e52, k53, hf⟩ := ho
        cases e52
        have ho := bnd_e hf
        clear hf
        obtain ⟨v48, w49, q50, hf⟩ := ho
        refine q_cV X M hS hl.1 (ci := 6) (r := (RX6, TX6, 53)) (As := [.int v45]) (m_X6_renew a51 v45 _ _ q50) mlL_29 gm_182 gm_183 rfl (by decide) k53 rfl ⟨(Nat.le_of_ble_eq_true rfl), (Nat.le_of_ble_eq_true rfl)⟩ (rest := [.int v39]) rfl (Nat.le_of_ble_eq_true rfl) (mc := 0) (ms := 0) (MC := 600000) (MS := 7302249) rfl rfl rfl rfl (by omega) (by omega) dL_law_198 (st2 := [.int v48, .int v39]) rfl (fun H locs M hS => ?_)
        refine lv_icmp_eq (tgt := 945) X.1 X.2.1 dL_law_201 (by decide) (fun c54 => ?_) (fun c54 => ?_)
        · rw [if_pos c54] at hf
          exact (b_L_law_945 (nn := n) hX hbl hbA X ih) (some a42) (some a51) x3 w49 _ _ _ _ _ hf M hS (by omega) (by omega) (lv_sub hl [0, 1, 2, 3] rfl)
        · rw [if_neg c54] at hf
          refine lv_iconst (v := 0) X.1 X.2.1 dL_law_204 (by decide) ?_
          cases hf
      rw [if_neg c35] at hf
      by_cases c55 : (v12 &&& 31) = 2
      · rw [if_pos c55] at hf
        refine lv_tableIn (tgt := 206) (off := 153) X.1 X.2.1 dL_law_53 (by rw [c55]; decide) (by rw [c55]; decide) (by rw [c55]; rfl) (by decide) ?_
        refine q_aload_n X dL_law_206 rfl (lv_at hl 1 rfl) ?_
        refine q_aload_n X dL_law_207 rfl (lv_at hl 0 rfl) ?_
        refine lv_iload_n X.1 X.2.1 dL_law_208 rfl (lv_at hl 3 rfl) ?_
        refine lv_iconst (v := 1) X.1 X.2.1 dL_law_209 (by decide) ?_
        refine lv_iadd X.1 X.2.1 dL_law_210 ?_
        have ho := rdS_e hf
        clear hf
        obtain ⟨v56, i57, q58, hf⟩ := ho
        refine va_sld X.1 X.2.1 hX hbl hbA hS i57 dL_law_211 ?_
        rw [q58]
        refine q_aload_n X dL_law_212 rfl (lv_at hl 0 rfl) ?_
        refine lv_iload_n X.1 X.2.1 dL_law_213 rfl (lv_at hl 3 rfl) ?_
        refine lv_iconst (v := 2) X.1 X.2.1 dL_law_214 (by decide) ?_
        refine lv_iadd X.1 X.2.1 dL_law_215 ?_
        have ho := rdS_e hf
        clear hf
        obtain ⟨v59, i60, q61, hf⟩ := ho
        refine va_sld X.1 X.2.1 hX hbl hbA hS i60 dL_law_216 ?_
        rw [q61]
        refine q_aload_n X dL_law_217 rfl (lv_at hl 0 rfl) ?_
        refine lv_iload_n X.1 X.2.1 dL_law_218 rfl (lv_at hl 3 rfl) ?_
        refine lv_iconst (v := 3) X.1 X.2.1 dL_law_219 (by decide) ?_
        refine lv_iadd X.1 X.2.1 dL_law_220 ?_
        have ho := rdS_e hf
        clear hf
        obtain ⟨v62, i63, q64, hf⟩ := ho
        refine va_sld X.1 X.2.1 hX hbl hbA hS i63 dL_law_221 ?_
        rw [q64]
        refine q_aload_n X dL_law_222 rfl (lv_at hl 0 rfl) ?_
        refine lv_iload_n X.1 X.2.1 dL_law_223 rfl (lv_at hl 3 rfl) ?_
        refine lv_iconst (v := 4) X.1 X.2.1 dL_law_224 (by decide) ?_
        refine lv_iadd X.1 X.2.1 dL_law_225 ?_
        have ho := rdS_e hf
        clear hf
        obtain ⟨v65, i66, q67, hf⟩ := ho
        refine va_sld X.1 X.2.1 hX hbl hbA hS i66 dL_law_226 ?_
        rw [q67]
        refine lv_i2l (v := v65.toInt64) X.1 X.2.1 dL_law_227 rfl ?_
        refine lv_bipush (v := 32) X.1 X.2.1 dL_law_228 (by decide) ?_
        refine lv_lshl (v := ((v65.toInt64) <<< (Int32.toInt64 32 &&& 63))) X.1 X.2.1 dL_law_230 rfl ?_
        refine q_aload_n X dL_law_231 rfl (lv_at hl 0 rfl) ?_
        refine lv_iload_n X.1 X.2.1 dL_law_232 rfl (lv_at hl 3 rfl) ?_
        refine lv_iconst (v := 5) X.1 X.2.1 dL_law_233 (by decide) ?_
        refine lv_iadd X.1 X.2.1 dL_law_234 ?_
        have ho := rdS_e hf
        clear hf
        obtain ⟨v68, i69, q70, hf⟩ := ho
        refine va_sld X.1 X.2.1 hX hbl hbA hS i69 dL_law_235 ?_
        rw [q70]
        refine lv_i2l (v := v68.toInt64) X.1 X.2.1 dL_law_236 rfl ?_
        refine lv_ldc2 (v := 4294967295) X.1 X.2.1 X.2.2.2.1 (X.2.2.2.2.2.2.2.1 _ gm_6) dL_law_237 ?_
        refine lv_land X.1 X.2.1 dL_law_240 ?_
        refine lv_lor X.1 X.2.1 dL_law_241 ?_
        refine q_aload_n X dL_law_242 rfl (lv_at hl 0 rfl) ?_
        refine lv_iload_n X.1 X.2.1 dL_law_243 rfl (lv_at hl 3 rfl) ?_
        refine lv_bipush (v := 6) X.1 X.2.1 dL_law_244 (by decide) ?_
        refine lv_iadd X.1 X.2.1 dL_law_246 ?_
        have ho := rdS_e hf
        clear hf
        obtain ⟨v71, i72, q73, hf⟩ := ho
        refine va_sld X.1 X.2.1 hX hbl hbA hS i72 dL_law_247 ?_
        rw [q73]
        refine lv_i2l (v := v71.toInt64) X.1 X.2.1 dL_law_248 rfl ?_
        refine lv_bipush (v := 32) X.1 X.2.1 dL_law_249 (by decide) ?_
        refine lv_lshl (v := ((v71.toInt64) <<< (Int32.toInt64 32 &&& 63))) X.1 X.2.1 dL_law_251 rfl ?_
        refine q_aload_n X dL_law_252 rfl (lv_at hl 0 rfl) ?_
        refine lv_iload_n X.1 X.2.1 dL_law_253 rfl (lv_at hl 3 rfl) ?_
        refine lv_bipush (v := 7) X.1 X.2.1 dL_law_254 (by decide) ?_
        refine lv_iadd X.1 X.2.1 dL_law_256 ?_
        have ho := rdS_e hf
        clear hf
        obtain ⟨v74, i75, q76, hf⟩ := ho
        refine va_sld X.1 X.2.1 hX hbl hbA hS i75 dL_law_257 ?_
        rw [q76]
        refine lv_i2l (v := v74.toInt64) X.1 X.2.1 dL_law_258 rfl ?_
        refine lv_ldc2 (v := 4294967295) X.1 X.2.1 X.2.2.2.1 (X.2.2.2.2.2.2.2.1 _ gm_6) dL_law_259 ?_
        refine lv_land X.1 X.2.1 dL_law_262 ?_
        refine lv_lor X.1 X.2.1 dL_law_263 ?_
        have ho := chk_e hf
        clear hf
        obtain ⟨a80, e81, k82, hf⟩ := ho
        cases e81
        have ho := bnd_e hf
        clear hf
        obtain ⟨v77, w78, q79, hf⟩ := ho
        refine q_cV X M hS hl.1 (ci := 5) (r := (RX5, TX5, 9)) (As := [.int v56, .int v59, .int v62, .long (((v65.toInt64) <<< (Int32.toInt64 32 &&& 63)) ||| ((v68.toInt64) &&& 4294967295)), .long (((v71.toInt64) <<< (Int32.toInt64 32 &&& 63)) ||| ((v74.toInt64) &&& 4294967295))]) (m_X5_call a80 v56 v59 v62 (((v65.toInt64) <<< (Int32.toInt64 32 &&& 63)) ||| ((v68.toInt64) &&& 4294967295)) (((v71.toInt64) <<< (Int32.toInt64 32 &&& 63)) ||| ((v74.toInt64) &&& 4294967295)) _ _ q79) mlL_32 gm_190 gm_191 rfl (by decide) k82 rfl ⟨(Nat.le_of_ble_eq_true rfl), (Nat.le_of_ble_eq_true rfl)⟩ (rest := []) rfl (Nat.le_of_ble_eq_true rfl) (mc := 1) (ms := 15) (MC := 600000) (MS := 7302249) rfl rfl rfl rfl (by omega) (by omega) dL_law_264 (st2 := [.int v77]) rfl (fun H locs M hS => ?_)
        refine q_aload_n X dL_law_267 rfl (lv_at hl 2 rfl) ?_
        refine q_aload_n X dL_law_268 rfl (lv_at hl 0 rfl) ?_
        refine lv_iload_n X.1 X.2.1 dL_law_269 rfl (lv_at hl 3 rfl) ?_
        refine lv_iconst (v := 1) X.1 X.2.1 dL_law_270 (by decide) ?_
        refine lv_iadd X.1 X.2.1 dL_law_271 ?_
        have ho := rdS_e hf
        clear hf
        obtain ⟨v83, i84, q85, hf⟩ := ho
        refine va_sld X.1 X.2.1 hX hbl hbA hS i84 dL_law_272 ?_
        rw [q85]
        refine q_aload_n X dL_law_273 rfl (lv_at hl 0 rfl) ?_
        refine lv_iload_n X.1 X.2.1 dL_law_274 rfl (lv_at hl 3 rfl) ?_
        refine lv_iconst (v := 2) X.1 X.2.1 dL_law_275 (by decide) ?_
        refine lv_iadd X.1 X.2.1 dL_law_276 ?_
        have ho := rdS_e hf
        clear hf
        obtain ⟨v86, i87, q88, hf⟩ := ho
        refine va_sld X.1 X.2.1 hX hbl hbA hS i87 dL_law_277 ?_
        rw [q88]
        refine q_aload_n X dL_law_278 rfl (lv_at hl 0 rfl) ?_
        refine lv_iload_n X.1 X.2.1 dL_law_279 rfl (lv_at hl 3 rfl) ?_
        refine lv_iconst (v := 3) X.1 X.2.1 dL_law_280 (by decide) ?_
        refine lv_iadd X.1 X.2.1 dL_law_281 ?_
        have ho := rdS_e hf
        clear hf
        obtain ⟨v89, i90, q91, hf⟩ := ho
        refine va_sld X.1 X.2.1 hX hbl hbA hS i90 dL_law_282 ?_
        rw [q91]
        refine q_aload_n X dL_law_283 rfl (lv_at hl 0 rfl) ?_
        refine lv_iload_n X.1 X.2.1 dL_law_284 rfl (lv_at hl 3 rfl) ?_
        refine lv_iconst (v := 4) X.1 X.2.1 dL_law_285 (by decide) ?_
        refine lv_iadd X.1 X.2.1 dL_law_286 ?_
        have ho := rdS_e hf
        clear hf
        obtain ⟨v92, i93, q94, hf⟩ := ho
        refine va_sld X.1 X.2.1 hX hbl hbA hS i93 dL_law_287 ?_
        rw [q94]
        refine lv_i2l (v := v92.toInt64) X.1 X.2.1 dL_law_288 rfl ?_
        refine lv_bipush (v := 32) X.1 X.2.1 dL_law_289 (by decide) ?_
        refine lv_lshl (v := ((v92.toInt64) <<< (Int32.toInt64 32 &&& 63))) X.1 X.2.1 dL_law_291 rfl ?_
        refine q_aload_n X dL_law_292 rfl (lv_at hl 0 rfl) ?_
        refine lv_iload_n X.1 X.2.1 dL_law_293 rfl (lv_at hl 3 rfl) ?_
        refine lv_iconst (v := 5) X.1 X.2.1 dL_law_294 (by decide) ?_
        refine lv_iadd X.1 X.2.1 dL_law_295 ?_
        have ho := rdS_e hf
        clear hf
        obtain ⟨v95, i96, q97, hf⟩ := ho
        refine va_sld X.1 X.2.1 hX hbl hbA hS i96 dL_law_296 ?_
        rw [q97]
        refine lv_i2l (v := v95.toInt64) X.1 X.2.1 dL_law_297 rfl ?_
        refine lv_ldc2 (v := 4294967295) X.1 X.2.1 X.2.2.2.1 (X.2.2.2.2.2.2.2.1 _ gm_6) dL_law_298 ?_
        refine lv_land X.1 X.2.1 dL_law_301 ?_
        refine lv_lor X.1 X.2.1 dL_law_302 ?_
        refine q_aload_n X dL_law_303 rfl (lv_at hl 0 rfl) ?_
        refine lv_iload_n X.1 X.2.1 dL_law_304 rfl (lv_at hl 3 rfl) ?_
        refine lv_bipush (v := 6) X.1 X.2.1 dL_law_305 (by decide) ?_
        refine lv_iadd X.1 X.2.1 dL_law_307 ?_
        have ho := rdS_e hf
        clear hf
        obtain ⟨v98, i99, q100, hf⟩ := ho
        refine va_sld X.1 X.2.1 hX hbl hbA hS i99 dL_law_308 ?_
        rw [q100]
        refine lv_i2l (v := v98.toInt64) X.1 X.2.1 dL_law_309 rfl ?_
        refine lv_bipush (v := 32) X.1 X.2.1 dL_law_310 (by decide) ?_
        refine lv_lshl (v := ((v98.toInt64) <<< (Int32.toInt64 32 &&& 63))) X.1 X.2.1 dL_law_312 rfl ?_
        refine q_aload_n X dL_law_313 rfl (lv_at hl 0 rfl) ?_
        refine lv_iload_n X.1 X.2.1 dL_law_314 rfl (lv_at hl 3 rfl) ?_
        refine lv_bipush (v := 7) X.1 X.2.1 dL_law_315 (by decide) ?_
        refine lv_iadd X.1 X.2.1 dL_law_317 ?_
        have ho := rdS_e hf
        clear hf
        obtain ⟨v101, i102, q103, hf⟩ := ho
        refine va_sld X.1 X.2.1 hX hbl hbA hS i102 dL_law_318 ?_
        rw [q103]
        refine lv_i2l (v := v101.toInt64) X.1 X.2.1 dL_law_319 rfl ?_
        refine lv_ldc2 (v := 4294967295) X.1 X.2.1 X.2.2.2.1 (X.2.2.2.2.2.2.2.1 _ gm_6) dL_law_320 ?_
        refine lv_land X.1 X.2.1 dL_law_323 ?_
        refine lv_lor X.1 X.2.1 dL_law_324 ?_
        have ho := chk_e hf
        clear hf
        obtain ⟨a107, e108, k109, hf⟩ := ho
        cases e108
        have ho := bnd_e hf
        clear hf
        obtain ⟨v104, w105, q106, hf⟩ := ho
        refine q_cV X M hS hl.1 (ci := 6) (r := (RX6, TX6, 53)) (As := [.int v83, .int v86, .int v89, .long (((v92.toInt64) <<< (Int32.toInt64 32 &&& 63)) ||| ((v95.toInt64) &&& 4294967295)), .long (((v98.toInt64) <<< (Int32.toInt64 32 &&& 63)) ||| ((v101.toInt64) &&& 4294967295))]) (m_X6_call a107 v83 v86 v89 (((v92.toInt64) <<< (Int32.toInt64 32 &&& 63)) ||| ((v95.toInt64) &&& 4294967295)) (((v98.toInt64) <<< (Int32.toInt64 32 &&& 63)) ||| ((v101.toInt64) &&& 4294967295)) _ _ q106) mlL_36 gm_246 gm_247 rfl (by decide) k109 rfl ⟨(Nat.le_of_ble_eq_true rfl), (Nat.le_of_ble_eq_true rfl)⟩ (rest := [.int v77]) rfl (Nat.le_of_ble_eq_true rfl) (mc := 0) (ms := 0) (MC := 600000) (MS := 7302249) rfl rfl rfl rfl (by omega) (by omega) dL_law_325 (st2 := [.int v104, .int v77]) rfl (fun H locs M hS => ?_)
        refine lv_icmp_eq (tgt := 945) X.1 X.2.1 dL_law_328 (by decide) (fun c110 => ?_) (fun c110 => ?_)
        · rw [if_pos c110] at hf
          exact (b_L_law_945 (nn := n) hX hbl hbA X ih) (some a80) (some a107) x3 w105 _ _ _ _ _ hf M hS (by omega) (by omega) (lv_sub hl [0, 1, 2, 3] rfl)
        · rw [if_neg c110] at hf
          refine lv_iconst (v := 0) X.1 X.2.1 dL_law_331 (by decide) ?_
          cases hf
      rw [if_neg c55] at hf
      by_cases c111 : (v12 &&& 31) = 3
      · rw [if_pos c111] at hf
        refine lv_tableIn (tgt := 333) (off := 280) X.1 X.2.1 dL_law_53 (by rw [c111]; decide) (by rw [c111]; decide) (by rw [c111]; rfl) (by decide) ?_
        refine q_aload_n X dL_law_333 rfl (lv_at hl 1 rfl) ?_
        refine q_aload_n X dL_law_334 rfl (lv_at hl 0 rfl) ?_
        refine lv_iload_n X.1 X.2.1 dL_law_335 rfl (lv_at hl 3 rfl) ?_
        refine lv_iconst (v := 1) X.1 X.2.1 dL_law_336 (by decide) ?_
        refine lv_iadd X.1 X.2.1 dL_law_337 ?_
        have ho := rdS_e hf
        clear hf
        obtain ⟨v112, i113, q114, hf⟩ := ho
        refine va_sld X.1 X.2.1 hX hbl hbA hS i113 dL_law_338 ?_
        rw [q114]
        refine q_aload_n X dL_law_339 rfl (lv_at hl 0 rfl) ?_
        refine lv_iload_n X.1 X.2.1 dL_law_340 rfl (lv_at hl 3 rfl) ?_
        refine lv_iconst (v := 2) X.1 X.2.1 dL_law_341 (by decide) ?_
        refine lv_iadd X.1 X.2.1 dL_law_342 ?_
        have ho := rdS_e hf
        clear hf
        obtain ⟨v115, i116, q117, hf⟩ := ho
        refine va_sld X.1 X.2.1 hX hbl hbA hS i116 dL_law_343 ?_
        rw [q117]
        have ho := chk_e hf
        clear hf
        obtain ⟨a121, e122, k123, hf⟩ := ho
        cases e122
        have ho := bnd_e hf
        clear hf
        obtain ⟨v118, w119, q120, hf⟩ := ho
        refine q_cV X M hS hl.1 (ci := 5) (r := (RX5, TX5, 9)) (As := [.int v112, .int v115]) (m_X5_retry a121 v112 v115 _ _ q120) mlL_37 gm_273 gm_274 rfl (by decide) k123 rfl ⟨(Nat.le_of_ble_eq_true rfl), (Nat.le_of_ble_eq_true rfl)⟩ (rest := []) rfl (Nat.le_of_ble_eq_true rfl) (mc := 1) (ms := 15) (MC := 600000) (MS := 7302249) rfl rfl rfl rfl (by omega) (by omega) dL_law_344 (st2 := [.int v118]) rfl (fun H locs M hS => ?_)
        refine q_aload_n X dL_law_347 rfl (lv_at hl 2 rfl) ?_
        refine q_aload_n X dL_law_348 rfl (lv_at hl 0 rfl) ?_
        refine lv_iload_n X.1 X.2.1 dL_law_349 rfl (lv_at hl 3 rfl) ?_
        refine lv_iconst (v := 1) X.1 X.2.1 dL_law_350 (by decide) ?_
        refine lv_iadd X.1 X.2.1 dL_law_351 ?_
        have ho := rdS_e hf
        clear hf
        obtain ⟨v124, i125, q126, hf⟩ := ho
        refine va_sld X.1 X.2.1 hX hbl hbA hS i125 dL_law_352 ?_
        rw [q126]
        refine q_aload_n X dL_law_353 rfl (lv_at hl 0 rfl) ?_
        refine lv_iload_n X.1 X.2.1 dL_law_354 rfl (lv_at hl 3 rfl) ?_
        refine lv_iconst (v := 2) X.1 X.2.1 dL_law_355 (by decide) ?_
        refine lv_iadd X.1 X.2.1 dL_law_356 ?_
        have ho := rdS_e hf
        clear hf
        obtain ⟨v127, i128, q129, hf⟩ := ho
        refine va_sld X.1 X.2.1 hX hbl hbA hS i128 dL_law_357 ?_
        rw [q129]
        have ho := chk_e hf
        clear hf
        obtain ⟨a133, e134, k135, hf⟩ := ho
        cases e134
        have ho := bnd_e hf
        clear hf
        obtain ⟨v130, w131, q132, hf⟩ := ho
        refine q_cV X M hS hl.1 (ci := 6) (r := (RX6, TX6, 53)) (As := [.int v124, .int v127]) (m_X6_retry a133 v124 v127 _ _ q132) mlL_41 gm_282 gm_283 rfl (by decide) k135 rfl ⟨(Nat.le_of_ble_eq_true rfl), (Nat.le_of_ble_eq_true rfl)⟩ (rest := [.int v118]) rfl (Nat.le_of_ble_eq_true rfl) (mc := 0) (ms := 0) (MC := 600000) (MS := 7302249) rfl rfl rfl rfl (by omega) (by omega) dL_law_358 (st2 := [.int v130, .int v118]) rfl (fun H locs M hS => ?_)
        refine lv_icmp_eq (tgt := 945) X.1 X.2.1 dL_law_361 (by decide) (fun c136 => ?_) (fun c136 => ?_)
        · rw [if_pos c136] at hf
          exact (b_L_law_945 (nn := n) hX hbl hbA X ih) (some a121) (some a133) x3 w131 _ _ _ _ _ hf M hS (by omega) (by omega) (lv_sub hl [0, 1, 2, 3] rfl)
        · rw [if_neg c136] at hf
          refine lv_iconst (v := 0) X.1 X.2.1 dL_law_364 (by decide) ?_
          cases hf
      rw [if_neg c111] at hf
      by_cases c137 : (v12 &&& 31) = 4
      · rw [if_pos c137] at hf
        refine lv_tableIn (tgt := 366) (off := 313) X.1 X.2.1 dL_law_53 (by rw [c137]; decide) (by rw [c137]; decide) (by rw [c137]; rfl) (by decide) ?_
        refine q_aload_n X dL_law_366 rfl (lv_at hl 1 rfl) ?_
        refine q_aload_n X dL_law_367 rfl (lv_at hl 0 rfl) ?_
        refine lv_iload_n X.1 X.2.1 dL_law_368 rfl (lv_at hl 3 rfl) ?_
        refine lv_iconst (v := 1) X.1 X.2.1 dL_law_369 (by decide) ?_
        refine lv_iadd X.1 X.2.1 dL_law_370 ?_
        have ho := rdS_e hf
        clear hf
        obtain ⟨v138, i139, q140, hf⟩ := ho
        refine va_sld X.1 X.2.1 hX hbl hbA hS i139 dL_law_371 ?_
        rw [q140]
        refine q_aload_n X dL_law_372 rfl (lv_at hl 0 rfl) ?_
        refine lv_iload_n X.1 X.2.1 dL_law_373 rfl (lv_at hl 3 rfl) ?_
        refine lv_iconst (v := 2) X.1 X.2.1 dL_law_374 (by decide) ?_
        refine lv_iadd X.1 X.2.1 dL_law_375 ?_
        have ho := rdS_e hf
        clear hf
        obtain ⟨v141, i142, q143, hf⟩ := ho
        refine va_sld X.1 X.2.1 hX hbl hbA hS i142 dL_law_376 ?_
        rw [q143]
        have ho := chk_e hf
        clear hf
        obtain ⟨a147, e148, k149, hf⟩ := ho
        cases e148
        have ho := bnd_e hf
        clear hf
        obtain ⟨v144, w145, q146, hf⟩ := ho
        refine q_cV X M hS hl.1 (ci := 5) (r := (RX5, TX5, 9)) (As := [.int v138, .int v141]) (m_X5_ack a147 v138 v141 _ _ q146) mlL_42 gm_290 gm_291 rfl (by decide) k149 rfl ⟨(Nat.le_of_ble_eq_true rfl), (Nat.le_of_ble_eq_true rfl)⟩ (rest := []) rfl (Nat.le_of_ble_eq_true rfl) (mc := 1) (ms := 15) (MC := 600000) (MS := 7302249) rfl rfl rfl rfl (by omega) (by omega) dL_law_377 (st2 := [.int v144]) rfl (fun H locs M hS => ?_)
        refine q_aload_n X dL_law_380 rfl (lv_at hl 2 rfl) ?_
        refine q_aload_n X dL_law_381 rfl (lv_at hl 0 rfl) ?_
        refine lv_iload_n X.1 X.2.1 dL_law_382 rfl (lv_at hl 3 rfl) ?_
        refine lv_iconst (v := 1) X.1 X.2.1 dL_law_383 (by decide) ?_
        refine lv_iadd X.1 X.2.1 dL_law_384 ?_
        have ho := rdS_e hf
        clear hf
        obtain ⟨v150, i151, q152, hf⟩ := ho
        refine va_sld X.1 X.2.1 hX hbl hbA hS i151 dL_law_385 ?_
        rw [q152]
        refine q_aload_n X dL_law_386 rfl (lv_at hl 0 rfl) ?_
        refine lv_iload_n X.1 X.2.1 dL_law_387 rfl (lv_at hl 3 rfl) ?_
        refine lv_iconst (v := 2) X.1 X.2.1 dL_law_388 (by decide) ?_
        refine lv_iadd X.1 X.2.1 dL_law_389 ?_
        have ho := rdS_e hf
        clear hf
        obtain ⟨v153, i154, q155, hf⟩ := ho
        refine va_sld X.1 X.2.1 hX hbl hbA hS i154 dL_law_390 ?_
        rw [q155]
        have ho := chk_e hf
        clear hf
        obtain ⟨a159, e160, k161, hf⟩ := ho
        cases e160
        have ho := bnd_e hf
        clear hf
        obtain ⟨v156, w157, q158, hf⟩ := ho
        refine q_cV X M hS hl.1 (ci := 6) (r := (RX6, TX6, 53)) (As := [.int v150, .int v153]) (m_X6_ack a159 v150 v153 _ _ q158) mlL_45 gm_298 gm_299 rfl (by decide) k161 rfl ⟨(Nat.le_of_ble_eq_true rfl), (Nat.le_of_ble_eq_true rfl)⟩ (rest := [.int v144]) rfl (Nat.le_of_ble_eq_true rfl) (mc := 0) (ms := 0) (MC := 600000) (MS := 7302249) rfl rfl rfl rfl (by omega) (by omega) dL_law_391 (st2 := [.int v156, .int v144]) rfl (fun H locs M hS => ?_)
        refine lv_icmp_eq (tgt := 945) X.1 X.2.1 dL_law_394 (by decide) (fun c162 => ?_) (fun c162 => ?_)
        · rw [if_pos c162] at hf
          exact (b_L_law_945 (nn := n) hX hbl hbA X ih) (some a147) (some a159) x3 w157 _ _ _ _ _ hf M hS (by omega) (by omega) (lv_sub hl [0, 1, 2, 3] rfl)
        · rw [if_neg c162] at hf
          refine lv_iconst (v := 0) X.1 X.2.1 dL_law_397 (by decide) ?_
          cases hf
      rw [if_neg c137] at hf
      by_cases c163 : (v12 &&& 31) = 5
      · rw [if_pos c163] at hf
        refine lv_tableIn (tgt := 399) (off := 346) X.1 X.2.1 dL_law_53 (by rw [c163]; decide) (by rw [c163]; decide) (by rw [c163]; rfl) (by decide) ?_
        refine q_aload_n X dL_law_399 rfl (lv_at hl 1 rfl) ?_
        refine q_aload_n X dL_law_400 rfl (lv_at hl 0 rfl) ?_
        refine lv_iload_n X.1 X.2.1 dL_law_401 rfl (lv_at hl 3 rfl) ?_
        refine lv_iconst (v := 1) X.1 X.2.1 dL_law_402 (by decide) ?_
        refine lv_iadd X.1 X.2.1 dL_law_403 ?_
        have ho := rdS_e hf
        clear hf
        obtain ⟨v164, i165, q166, hf⟩ := ho
        refine va_sld X.1 X.2.1 hX hbl hbA hS i165 dL_law_404 ?_
        rw [q166]
        have ho := chk_e hf
        clear hf
        obtain ⟨a170, e171, k172, hf⟩ := ho
        cases e171
        have ho := bnd_e hf
        clear hf
        obtain ⟨v167, w168, q169, hf⟩ := ho
        refine q_cV X M hS hl.1 (ci := 5) (r := (RX5, TX5, 9)) (As := [.int v164]) (m_X5_deliver a170 v164 _ _ q169) mlL_46 gm_306 gm_307 rfl (by decide) k172 rfl ⟨(Nat.le_of_ble_eq_true rfl), (Nat.le_of_ble_eq_true rfl)⟩ (rest := []) rfl (Nat.le_of_ble_eq_true rfl) (mc := 1) (ms := 15) (MC := 600000) (MS := 7302249) rfl rfl rfl rfl (by omega) (by omega) dL_law_405 (st2 := [.int v167]) rfl (fun H locs M hS => ?_)
        refine q_aload_n X dL_law_408 rfl (lv_at hl 2 rfl) ?_
        refine q_aload_n X dL_law_409 rfl (lv_at hl 0 rfl) ?_
        refine lv_iload_n X.1 X.2.1 dL_law_410 rfl (lv_at hl 3 rfl) ?_
        refine lv_iconst (v := 1) X.1 X.2.1 dL_law_411 (by decide) ?_
        refine lv_iadd X.1 X.2.1 dL_law_412 ?_
        have ho := rdS_e hf
        clear hf
        obtain ⟨v173, i174, q175, hf⟩ := ho
        refine va_sld X.1 X.2.1 hX hbl hbA hS i174 dL_law_413 ?_
        rw [q175]
        have ho := chk_e hf
        clear hf
        obtain ⟨a179, e180, k181, hf⟩ := ho
        cases e180
        have ho := bnd_e hf
        clear hf
        obtain ⟨v176, w177, q178, hf⟩ := ho
        refine q_cV X M hS hl.1 (ci := 6) (r := (RX6, TX6, 53)) (As := [.int v173]) (m_X6_deliver a179 v173 _ _ q178) mlL_49 gm_433 gm_434 rfl (by decide) k181 rfl ⟨(Nat.le_of_ble_eq_true rfl), (Nat.le_of_ble_eq_true rfl)⟩ (rest := [.int v167]) rfl (Nat.le_of_ble_eq_true rfl) (mc := 0) (ms := 0) (MC := 600000) (MS := 7302249) rfl rfl rfl rfl (by omega) (by omega) dL_law_414 (st2 := [.int v176, .int v167]) rfl (fun H locs M hS => ?_)
        refine lv_icmp_eq (tgt := 945) X.1 X.2.1 dL_law_417 (by decide) (fun c182 => ?_) (fun c182 => ?_)
        · rw [if_pos c182] at hf
          exact (b_L_law_945 (nn := n) hX hbl hbA X ih) (some a170) (some a179) x3 w177 _ _ _ _ _ hf M hS (by omega) (by omega) (lv_sub hl [0, 1, 2, 3] rfl)
        · rw [if_neg c182] at hf
          refine lv_iconst (v := 0) X.1 X.2.1 dL_law_420 (by decide) ?_
          cases hf
      rw [if_neg c163] at hf
      by_cases c183 : (v12 &&& 31) = 6
      · rw [if_pos c183] at hf
        refine lv_tableIn (tgt := 422) (off := 369) X.1 X.2.1 dL_law_53 (by rw [c183]; decide) (by rw [c183]; decide) (by rw [c183]; rfl) (by decide) ?_
        refine q_aload_n X dL_law_422 rfl (lv_at hl 1 rfl) ?_
        refine q_aload_n X dL_law_423 rfl (lv_at hl 0 rfl) ?_
        refine lv_iload_n X.1 X.2.1 dL_law_424 rfl (lv_at hl 3 rfl) ?_
        refine lv_iconst (v := 1) X.1 X.2.1 dL_law_425 (by decide) ?_
        refine lv_iadd X.1 X.2.1 dL_law_426 ?_
        have ho := rdS_e hf
        clear hf
        obtain ⟨v184, i185, q186, hf⟩ := ho
        refine va_sld X.1 X.2.1 hX hbl hbA hS i185 dL_law_427 ?_
        rw [q186]
        have ho := chk_e hf
        clear hf
        obtain ⟨a190, e191, k192, hf⟩ := ho
        cases e191
        have ho := bnd_e hf
        clear hf
        obtain ⟨v187, w188, q189, hf⟩ := ho
        refine q_cV X M hS hl.1 (ci := 5) (r := (RX5, TX5, 9)) (As := [.int v184]) (m_X5_drop a190 v184 _ _ q189) mlL_50 gm_479 gm_480 rfl (by decide) k192 rfl ⟨(Nat.le_of_ble_eq_true rfl), (Nat.le_of_ble_eq_true rfl)⟩ (rest := []) rfl (Nat.le_of_ble_eq_true rfl) (mc := 0) (ms := 0) (MC := 600000) (MS := 7302249) rfl rfl rfl rfl (by omega) (by omega) dL_law_428 (st2 := [.int v187]) rfl (fun H locs M hS => ?_)
        refine q_aload_n X dL_law_431 rfl (lv_at hl 2 rfl) ?_
        refine q_aload_n X dL_law_432 rfl (lv_at hl 0 rfl) ?_
        refine lv_iload_n X.1 X.2.1 dL_law_433 rfl (lv_at hl 3 rfl) ?_
        refine lv_iconst (v := 1) X.1 X.2.1 dL_law_434 (by decide) ?_
        refine lv_iadd X.1 X.2.1 dL_law_435 ?_
        have ho := rdS_e hf
        clear hf
        obtain ⟨v193, i194, q195, hf⟩ := ho
        refine va_sld X.1 X.2.1 hX hbl hbA hS i194 dL_law_436 ?_
        rw [q195]
        have ho := chk_e hf
        clear hf
        obtain ⟨a199, e200, k201, hf⟩ := ho
        cases e200
        have ho := bnd_e hf
        clear hf
        obtain ⟨v196, w197, q198, hf⟩ := ho
        refine q_cV X M hS hl.1 (ci := 6) (r := (RX6, TX6, 53)) (As := [.int v193]) (m_X6_drop a199 v193 _ _ q198) mlL_53 gm_483 gm_484 rfl (by decide) k201 rfl ⟨(Nat.le_of_ble_eq_true rfl), (Nat.le_of_ble_eq_true rfl)⟩ (rest := [.int v187]) rfl (Nat.le_of_ble_eq_true rfl) (mc := 0) (ms := 0) (MC := 600000) (MS := 7302249) rfl rfl rfl rfl (by omega) (by omega) dL_law_437 (st2 := [.int v196, .int v187]) rfl (fun H locs M hS => ?_)
        refine lv_icmp_eq (tgt := 945) X.1 X.2.1 dL_law_440 (by decide) (fun c202 => ?_) (fun c202 => ?_)
        · rw [if_pos c202] at hf
          exact (b_L_law_945 (nn := n) hX hbl hbA X ih) (some a190) (some a199) x3 w197 _ _ _ _ _ hf M hS (by omega) (by omega) (lv_sub hl [0, 1, 2, 3] rfl)
        · rw [if_neg c202] at hf
          refine lv_iconst (v := 0) X.1 X.2.1 dL_law_443 (by decide) ?_
          cases hf
      rw [if_neg c183] at hf
      by_cases c203 : (v12 &&& 31) = 7
      · rw [if_pos c203] at hf
        refine lv_tableIn (tgt := 445) (off := 392) X.1 X.2.1 dL_law_53 (by rw [c203]; decide) (by rw [c203]; decide) (by rw [c203]; rfl) (by decide) ?_
        refine q_aload_n X dL_law_445 rfl (lv_at hl 1 rfl) ?_
        refine q_aload_n X dL_law_446 rfl (lv_at hl 0 rfl) ?_
        refine lv_iload_n X.1 X.2.1 dL_law_447 rfl (lv_at hl 3 rfl) ?_
        refine lv_iconst (v := 1) X.1 X.2.1 dL_law_448 (by decide) ?_
        refine lv_iadd X.1 X.2.1 dL_law_449 ?_
        have ho := rdS_e hf
        clear hf
        obtain ⟨v204, i205, q206, hf⟩ := ho
        refine va_sld X.1 X.2.1 hX hbl hbA hS i205 dL_law_450 ?_
        rw [q206]
        have ho := chk_e hf
        clear hf
        obtain ⟨a210, e211, k212, hf⟩ := ho
        cases e211
        have ho := bnd_e hf
        clear hf
        obtain ⟨v207, w208, q209, hf⟩ := ho
        refine q_cV X M hS hl.1 (ci := 5) (r := (RX5, TX5, 9)) (As := [.int v204]) (m_X5_twin a210 v204 _ _ q209) mlL_54 gm_487 gm_488 rfl (by decide) k212 rfl ⟨(Nat.le_of_ble_eq_true rfl), (Nat.le_of_ble_eq_true rfl)⟩ (rest := []) rfl (Nat.le_of_ble_eq_true rfl) (mc := 0) (ms := 0) (MC := 600000) (MS := 7302249) rfl rfl rfl rfl (by omega) (by omega) dL_law_451 (st2 := [.int v207]) rfl (fun H locs M hS => ?_)
        refine q_aload_n X dL_law_454 rfl (lv_at hl 2 rfl) ?_
        refine q_aload_n X dL_law_455 rfl (lv_at hl 0 rfl) ?_
        refine lv_iload_n X.1 X.2.1 dL_law_456 rfl (lv_at hl 3 rfl) ?_
        refine lv_iconst (v := 1) X.1 X.2.1 dL_law_457 (by decide) ?_
        refine lv_iadd X.1 X.2.1 dL_law_458 ?_
        have ho := rdS_e hf
        clear hf
        obtain ⟨v213, i214, q215, hf⟩ := ho
        refine va_sld X.1 X.2.1 hX hbl hbA hS i214 dL_law_459 ?_
        rw [q215]
        have ho := chk_e hf
        clear hf
        obtain ⟨a219, e220, k221, hf⟩ := ho
        cases e220
        have ho := bnd_e hf
        clear hf
        obtain ⟨v216, w217, q218, hf⟩ := ho
        refine q_cV X M hS hl.1 (ci := 6) (r := (RX6, TX6, 53)) (As := [.int v213]) (m_X6_twin a219 v213 _ _ q218) mlL_57 gm_491 gm_492 rfl (by decide) k221 rfl ⟨(Nat.le_of_ble_eq_true rfl), (Nat.le_of_ble_eq_true rfl)⟩ (rest := [.int v207]) rfl (Nat.le_of_ble_eq_true rfl) (mc := 0) (ms := 0) (MC := 600000) (MS := 7302249) rfl rfl rfl rfl (by omega) (by omega) dL_law_460 (st2 := [.int v216, .int v207]) rfl (fun H locs M hS => ?_)
        refine lv_icmp_eq (tgt := 945) X.1 X.2.1 dL_law_463 (by decide) (fun c222 => ?_) (fun c222 => ?_)
        · rw [if_pos c222] at hf
          exact (b_L_law_945 (nn := n) hX hbl hbA X ih) (some a210) (some a219) x3 w217 _ _ _ _ _ hf M hS (by omega) (by omega) (lv_sub hl [0, 1, 2, 3] rfl)
        · rw [if_neg c222] at hf
          refine lv_iconst (v := 0) X.1 X.2.1 dL_law_466 (by decide) ?_
          cases hf
      rw [if_neg c203] at hf
      by_cases c223 : (v12 &&& 31) = 8
      · rw [if_pos c223] at hf
        refine lv_tableIn (tgt := 468) (off := 415) X.1 X.2.1 dL_law_53 (by rw [c223]; decide) (by rw [c223]; decide) (by rw [c223]; rfl) (by decide) ?_
        refine q_aload_n X dL_law_468 rfl (lv_at hl 1 rfl) ?_
        refine q_aload_n X dL_law_469 rfl (lv_at hl 0 rfl) ?_
        refine lv_iload_n X.1 X.2.1 dL_law_470 rfl (lv_at hl 3 rfl) ?_
        refine lv_iconst (v := 1) X.1 X.2.1 dL_law_471 (by decide) ?_
        refine lv_iadd X.1 X.2.1 dL_law_472 ?_
        have ho := rdS_e hf
        clear hf
        obtain ⟨v224, i225, q226, hf⟩ := ho
        refine va_sld X.1 X.2.1 hX hbl hbA hS i225 dL_law_473 ?_
        rw [q226]
        have ho := chk_e hf
        clear hf
        obtain ⟨a230, e231, k232, hf⟩ := ho
        cases e231
        have ho := bnd_e hf
        clear hf
        obtain ⟨v227, w228, q229, hf⟩ := ho
        refine q_cV X M hS hl.1 (ci := 5) (r := (RX5, TX5, 9)) (As := [.int v224]) (m_X5_sync a230 v224 _ _ q229) mlL_58 gm_495 gm_496 rfl (by decide) k232 rfl ⟨(Nat.le_of_ble_eq_true rfl), (Nat.le_of_ble_eq_true rfl)⟩ (rest := []) rfl (Nat.le_of_ble_eq_true rfl) (mc := 0) (ms := 0) (MC := 600000) (MS := 7302249) rfl rfl rfl rfl (by omega) (by omega) dL_law_474 (st2 := [.int v227]) rfl (fun H locs M hS => ?_)
        refine q_aload_n X dL_law_477 rfl (lv_at hl 2 rfl) ?_
        refine q_aload_n X dL_law_478 rfl (lv_at hl 0 rfl) ?_
        refine lv_iload_n X.1 X.2.1 dL_law_479 rfl (lv_at hl 3 rfl) ?_
        refine lv_iconst (v := 1) X.1 X.2.1 dL_law_480 (by decide) ?_
        refine lv_iadd X.1 X.2.1 dL_law_481 ?_
        have ho := rdS_e hf
        clear hf
        obtain ⟨v233, i234, q235, hf⟩ := ho
        refine va_sld X.1 X.2.1 hX hbl hbA hS i234 dL_law_482 ?_
        rw [q235]
        have ho := chk_e hf
        clear hf
        obtain ⟨a239, e240, k241, hf⟩ := ho
        cases e240
        have ho := bnd_e hf
        clear hf
        obtain ⟨v236, w237, q238, hf⟩ := ho
        refine q_cV X M hS hl.1 (ci := 6) (r := (RX6, TX6, 53)) (As := [.int v233]) (m_X6_sync a239 v233 _ _ q238) mlL_61 gm_508 gm_509 rfl (by decide) k241 rfl ⟨(Nat.le_of_ble_eq_true rfl), (Nat.le_of_ble_eq_true rfl)⟩ (rest := [.int v227]) rfl (Nat.le_of_ble_eq_true rfl) (mc := 0) (ms := 0) (MC := 600000) (MS := 7302249) rfl rfl rfl rfl (by omega) (by omega) dL_law_483 (st2 := [.int v236, .int v227]) rfl (fun H locs M hS => ?_)
        refine lv_icmp_eq (tgt := 945) X.1 X.2.1 dL_law_486 (by decide) (fun c242 => ?_) (fun c242 => ?_)
        · rw [if_pos c242] at hf
          exact (b_L_law_945 (nn := n) hX hbl hbA X ih) (some a230) (some a239) x3 w237 _ _ _ _ _ hf M hS (by omega) (by omega) (lv_sub hl [0, 1, 2, 3] rfl)
        · rw [if_neg c242] at hf
          refine lv_iconst (v := 0) X.1 X.2.1 dL_law_489 (by decide) ?_
          cases hf
      rw [if_neg c223] at hf
      by_cases c243 : (v12 &&& 31) = 9
      · rw [if_pos c243] at hf
        refine lv_tableIn (tgt := 491) (off := 438) X.1 X.2.1 dL_law_53 (by rw [c243]; decide) (by rw [c243]; decide) (by rw [c243]; rfl) (by decide) ?_
        refine q_aload_n X dL_law_491 rfl (lv_at hl 1 rfl) ?_
        refine q_aload_n X dL_law_492 rfl (lv_at hl 0 rfl) ?_
        refine lv_iload_n X.1 X.2.1 dL_law_493 rfl (lv_at hl 3 rfl) ?_
        refine lv_iconst (v := 1) X.1 X.2.1 dL_law_494 (by decide) ?_
        refine lv_iadd X.1 X.2.1 dL_law_495 ?_
        have ho := rdS_e hf
        clear hf
        obtain ⟨v244, i245, q246, hf⟩ := ho
        refine va_sld X.1 X.2.1 hX hbl hbA hS i245 dL_law_496 ?_
        rw [q246]
        have ho := chk_e hf
        clear hf
        obtain ⟨a250, e251, k252, hf⟩ := ho
        cases e251
        have ho := bnd_e hf
        clear hf
        obtain ⟨v247, w248, q249, hf⟩ := ho
        refine q_cV X M hS hl.1 (ci := 5) (r := (RX5, TX5, 9)) (As := [.int v244]) (m_X5_crash a250 v244 _ _ q249) mlL_62 gm_516 gm_517 rfl (by decide) k252 rfl ⟨(Nat.le_of_ble_eq_true rfl), (Nat.le_of_ble_eq_true rfl)⟩ (rest := []) rfl (Nat.le_of_ble_eq_true rfl) (mc := 0) (ms := 0) (MC := 600000) (MS := 7302249) rfl rfl rfl rfl (by omega) (by omega) dL_law_497 (st2 := [.int v247]) rfl (fun H locs M hS => ?_)
        refine q_aload_n X dL_law_500 rfl (lv_at hl 2 rfl) ?_
        refine q_aload_n X dL_law_501 rfl (lv_at hl 0 rfl) ?_
        refine lv_iload_n X.1 X.2.1 dL_law_502 rfl (lv_at hl 3 rfl) ?_
        refine lv_iconst (v := 1) X.1 X.2.1 dL_law_503 (by decide) ?_
        refine lv_iadd X.1 X.2.1 dL_law_504 ?_
        have ho := rdS_e hf
        clear hf
        obtain ⟨v253, i254, q255, hf⟩ := ho
        refine va_sld X.1 X.2.1 hX hbl hbA hS i254 dL_law_505 ?_
        rw [q255]
        have ho := chk_e hf
        clear hf
        obtain ⟨a259, e260, k261, hf⟩ := ho
        cases e260
        have ho := bnd_e hf
        clear hf
        obtain ⟨v256, w257, q258, hf⟩ := ho
        refine q_cV X M hS hl.1 (ci := 6) (r := (RX6, TX6, 53)) (As := [.int v253]) (m_X6_crash a259 v253 _ _ q258) mlL_65 gm_524 gm_525 rfl (by decide) k261 rfl ⟨(Nat.le_of_ble_eq_true rfl), (Nat.le_of_ble_eq_true rfl)⟩ (rest := [.int v247]) rfl (Nat.le_of_ble_eq_true rfl) (mc := 0) (ms := 0) (MC := 600000) (MS := 7302249) rfl rfl rfl rfl (by omega) (by omega) dL_law_506 (st2 := [.int v256, .int v247]) rfl (fun H locs M hS => ?_)
        refine lv_icmp_eq (tgt := 945) X.1 X.2.1 dL_law_509 (by decide) (fun c262 => ?_) (fun c262 => ?_)
        · rw [if_pos c262] at hf
          exact (b_L_law_945 (nn := n) hX hbl hbA X ih) (some a250) (some a259) x3 w257 _ _ _ _ _ hf M hS (by omega) (by omega) (lv_sub hl [0, 1, 2, 3] rfl)
        · rw [if_neg c262] at hf
          refine lv_iconst (v := 0) X.1 X.2.1 dL_law_512 (by decide) ?_
          cases hf
      rw [if_neg c243] at hf
      by_cases c263 : (v12 &&& 31) = 10
      · rw [if_pos c263] at hf
        refine lv_tableIn (tgt := 514) (off := 461) X.1 X.2.1 dL_law_53 (by rw [c263]; decide) (by rw [c263]; decide) (by rw [c263]; rfl) (by decide) ?_
        refine q_aload_n X dL_law_514 rfl (lv_at hl 1 rfl) ?_
        refine q_aload_n X dL_law_515 rfl (lv_at hl 0 rfl) ?_
        refine lv_iload_n X.1 X.2.1 dL_law_516 rfl (lv_at hl 3 rfl) ?_
        refine lv_iconst (v := 1) X.1 X.2.1 dL_law_517 (by decide) ?_
        refine lv_iadd X.1 X.2.1 dL_law_518 ?_
        have ho := rdS_e hf
        clear hf
        obtain ⟨v264, i265, q266, hf⟩ := ho
        refine va_sld X.1 X.2.1 hX hbl hbA hS i265 dL_law_519 ?_
        rw [q266]
        have ho := chk_e hf
        clear hf
        obtain ⟨a270, e271, k272, hf⟩ := ho
        cases e271
        have ho := bnd_e hf
        clear hf
        obtain ⟨v267, w268, q269, hf⟩ := ho
        refine q_cV X M hS hl.1 (ci := 5) (r := (RX5, TX5, 9)) (As := [.int v264]) (m_X5_start a270 v264 _ _ q269) mlL_66 gm_528 gm_529 rfl (by decide) k272 rfl ⟨(Nat.le_of_ble_eq_true rfl), (Nat.le_of_ble_eq_true rfl)⟩ (rest := []) rfl (Nat.le_of_ble_eq_true rfl) (mc := 0) (ms := 0) (MC := 600000) (MS := 7302249) rfl rfl rfl rfl (by omega) (by omega) dL_law_520 (st2 := [.int v267]) rfl (fun H locs M hS => ?_)
        refine q_aload_n X dL_law_523 rfl (lv_at hl 2 rfl) ?_
        refine q_aload_n X dL_law_524 rfl (lv_at hl 0 rfl) ?_
        refine lv_iload_n X.1 X.2.1 dL_law_525 rfl (lv_at hl 3 rfl) ?_
        refine lv_iconst (v := 1) X.1 X.2.1 dL_law_526 (by decide) ?_
        refine lv_iadd X.1 X.2.1 dL_law_527 ?_
        have ho := rdS_e hf
        clear hf
        obtain ⟨v273, i274, q275, hf⟩ := ho
        refine va_sld X.1 X.2.1 hX hbl hbA hS i274 dL_law_528 ?_
        rw [q275]
        have ho := chk_e hf
        clear hf
        obtain ⟨a279, e280, k281, hf⟩ := ho
        cases e280
        have ho := bnd_e hf
        clear hf
        obtain ⟨v276, w277, q278, hf⟩ := ho
        refine q_cV X M hS hl.1 (ci := 6) (r := (RX6, TX6, 53)) (As := [.int v273]) (m_X6_start a279 v273 _ _ q278) mlL_69 gm_532 gm_533 rfl (by decide) k281 rfl ⟨(Nat.le_of_ble_eq_true rfl), (Nat.le_of_ble_eq_true rfl)⟩ (rest := [.int v267]) rfl (Nat.le_of_ble_eq_true rfl) (mc := 0) (ms := 0) (MC := 600000) (MS := 7302249) rfl rfl rfl rfl (by omega) (by omega) dL_law_529 (st2 := [.int v276, .int v267]) rfl (fun H locs M hS => ?_)
        refine lv_icmp_eq (tgt := 945) X.1 X.2.1 dL_law_532 (by decide) (fun c282 => ?_) (fun c282 => ?_)
        · rw [if_pos c282] at hf
          exact (b_L_law_945 (nn := n) hX hbl hbA X ih) (some a270) (some a279) x3 w277 _ _ _ _ _ hf M hS (by omega) (by omega) (lv_sub hl [0, 1, 2, 3] rfl)
        · rw [if_neg c282] at hf
          refine lv_iconst (v := 0) X.1 X.2.1 dL_law_535 (by decide) ?_
          cases hf
      rw [if_neg c263] at hf
      by_cases c283 : (v12 &&& 31) = 11
      · rw [if_pos c283] at hf
        refine lv_tableIn (tgt := 537) (off := 484) X.1 X.2.1 dL_law_53 (by rw [c283]; decide) (by rw [c283]; decide) (by rw [c283]; rfl) (by decide) ?_
        refine q_aload_n X dL_law_537 rfl (lv_at hl 1 rfl) ?_
        refine q_aload_n X dL_law_538 rfl (lv_at hl 0 rfl) ?_
        refine lv_iload_n X.1 X.2.1 dL_law_539 rfl (lv_at hl 3 rfl) ?_
        refine lv_iconst (v := 1) X.1 X.2.1 dL_law_540 (by decide) ?_
        refine lv_iadd X.1 X.2.1 dL_law_541 ?_
        have ho := rdS_e hf
        clear hf
        obtain ⟨v284, i285, q286, hf⟩ := ho
        refine va_sld X.1 X.2.1 hX hbl hbA hS i285 dL_law_542 ?_
        rw [q286]
        refine q_aload_n X dL_law_543 rfl (lv_at hl 0 rfl) ?_
        refine lv_iload_n X.1 X.2.1 dL_law_544 rfl (lv_at hl 3 rfl) ?_
        refine lv_iconst (v := 2) X.1 X.2.1 dL_law_545 (by decide) ?_
        refine lv_iadd X.1 X.2.1 dL_law_546 ?_
        have ho := rdS_e hf
        clear hf
        obtain ⟨v287, i288, q289, hf⟩ := ho
        refine va_sld X.1 X.2.1 hX hbl hbA hS i288 dL_law_547 ?_
        rw [q289]
        refine q_aload_n X dL_law_548 rfl (lv_at hl 0 rfl) ?_
        refine lv_iload_n X.1 X.2.1 dL_law_549 rfl (lv_at hl 3 rfl) ?_
        refine lv_iconst (v := 3) X.1 X.2.1 dL_law_550 (by decide) ?_
        refine lv_iadd X.1 X.2.1 dL_law_551 ?_
        have ho := rdS_e hf
        clear hf
        obtain ⟨v290, i291, q292, hf⟩ := ho
        refine va_sld X.1 X.2.1 hX hbl hbA hS i291 dL_law_552 ?_
        rw [q292]
        have ho := chk_e hf
        clear hf
        obtain ⟨a296, e297, k298, hf⟩ := ho
        cases e297
        have ho := bnd_e hf
        clear hf
        obtain ⟨v293, w294, q295, hf⟩ := ho
        refine q_cV X M hS hl.1 (ci := 5) (r := (RX5, TX5, 9)) (As := [.int v284, .int v287, .int v290]) (m_X5_move a296 v284 v287 v290 _ _ q295) mlL_70 gm_536 gm_537 rfl (by decide) k298 rfl ⟨(Nat.le_of_ble_eq_true rfl), (Nat.le_of_ble_eq_true rfl)⟩ (rest := []) rfl (Nat.le_of_ble_eq_true rfl) (mc := 9) (ms := 90) (MC := 600000) (MS := 7302249) rfl rfl rfl rfl (by omega) (by omega) dL_law_553 (st2 := [.int v293]) rfl (fun H locs M hS => ?_)
        refine q_aload_n X dL_law_556 rfl (lv_at hl 2 rfl) ?_
        refine q_aload_n X dL_law_557 rfl (lv_at hl 0 rfl) ?_
        refine lv_iload_n X.1 X.2.1 dL_law_558 rfl (lv_at hl 3 rfl) ?_
        refine lv_iconst (v := 1) X.1 X.2.1 dL_law_559 (by decide) ?_
        refine lv_iadd X.1 X.2.1 dL_law_560 ?_
        have ho := rdS_e hf
        clear hf
        obtain ⟨v299, i300, q301, hf⟩ := ho
        refine va_sld X.1 X.2.1 hX hbl hbA hS i300 dL_law_561 ?_
        rw [q301]
        refine q_aload_n X dL_law_562 rfl (lv_at hl 0 rfl) ?_
        refine lv_iload_n X.1 X.2.1 dL_law_563 rfl (lv_at hl 3 rfl) ?_
        refine lv_iconst (v := 2) X.1 X.2.1 dL_law_564 (by decide) ?_
        refine lv_iadd X.1 X.2.1 dL_law_565 ?_
        have ho := rdS_e hf
        clear hf
        obtain ⟨v302, i303, q304, hf⟩ := ho
        refine va_sld X.1 X.2.1 hX hbl hbA hS i303 dL_law_566 ?_
        rw [q304]
        refine q_aload_n X dL_law_567 rfl (lv_at hl 0 rfl) ?_
        refine lv_iload_n X.1 X.2.1 dL_law_568 rfl (lv_at hl 3 rfl) ?_
        refine lv_iconst (v := 3) X.1 X.2.1 dL_law_569 (by decide) ?_
        refine lv_iadd X.1 X.2.1 dL_law_570 ?_
        have ho := rdS_e hf
        clear hf
        obtain ⟨v305, i306, q307, hf⟩ := ho
        refine va_sld X.1 X.2.1 hX hbl hbA hS i306 dL_law_571 ?_
        rw [q307]
        have ho := chk_e hf
        clear hf
        obtain ⟨a311, e312, k313, hf⟩ := ho
        cases e312
        have ho := bnd_e hf
        clear hf
        obtain ⟨v308, w309, q310, hf⟩ := ho
        refine q_cV X M hS hl.1 (ci := 6) (r := (RX6, TX6, 53)) (As := [.int v299, .int v302, .int v305]) (m_X6_move a311 v299 v302 v305 _ _ q310) mlL_74 gm_545 gm_546 rfl (by decide) k313 rfl ⟨(Nat.le_of_ble_eq_true rfl), (Nat.le_of_ble_eq_true rfl)⟩ (rest := [.int v293]) rfl (Nat.le_of_ble_eq_true rfl) (mc := 0) (ms := 0) (MC := 600000) (MS := 7302249) rfl rfl rfl rfl (by omega) (by omega) dL_law_572 (st2 := [.int v308, .int v293]) rfl (fun H locs M hS => ?_)
        refine lv_icmp_eq (tgt := 945) X.1 X.2.1 dL_law_575 (by decide) (fun c314 => ?_) (fun c314 => ?_)
        · rw [if_pos c314] at hf
          exact (b_L_law_945 (nn := n) hX hbl hbA X ih) (some a296) (some a311) x3 w309 _ _ _ _ _ hf M hS (by omega) (by omega) (lv_sub hl [0, 1, 2, 3] rfl)
        · rw [if_neg c314] at hf
          refine lv_iconst (v := 0) X.1 X.2.1 dL_law_578 (by decide) ?_
          cases hf
      rw [if_neg c283] at hf
      by_cases c315 : (v12 &&& 31) = 12
      · rw [if_pos c315] at hf
        refine lv_tableIn (tgt := 580) (off := 527) X.1 X.2.1 dL_law_53 (by rw [c315]; decide) (by rw [c315]; decide) (by rw [c315]; rfl) (by decide) ?_
        refine q_aload_n X dL_law_580 rfl (lv_at hl 1 rfl) ?_
        refine q_aload_n X dL_law_581 rfl (lv_at hl 0 rfl) ?_
        refine lv_iload_n X.1 X.2.1 dL_law_582 rfl (lv_at hl 3 rfl) ?_
        refine lv_iconst (v := 1) X.1 X.2.1 dL_law_583 (by decide) ?_
        refine lv_iadd X.1 X.2.1 dL_law_584 ?_
        have ho := rdS_e hf
        clear hf
        obtain ⟨v316, i317, q318, hf⟩ := ho
        refine va_sld X.1 X.2.1 hX hbl hbA hS i317 dL_law_585 ?_
        rw [q318]
        have ho := chk_e hf
        clear hf
        obtain ⟨a322, e323, k324, hf⟩ := ho
        cases e323
        have ho := bnd_e hf
        clear hf
        obtain ⟨v319, w320, q321, hf⟩ := ho
        refine q_cV X M hS hl.1 (ci := 5) (r := (RX5, TX5, 9)) (As := [.int v316]) (m_X5_collect a322 v316 _ _ q321) mlL_75 gm_549 gm_550 rfl (by decide) k324 rfl ⟨(Nat.le_of_ble_eq_true rfl), (Nat.le_of_ble_eq_true rfl)⟩ (rest := []) rfl (Nat.le_of_ble_eq_true rfl) (mc := 0) (ms := 0) (MC := 600000) (MS := 7302249) rfl rfl rfl rfl (by omega) (by omega) dL_law_586 (st2 := [.int v319]) rfl (fun H locs M hS => ?_)
        refine q_aload_n X dL_law_589 rfl (lv_at hl 2 rfl) ?_
        refine q_aload_n X dL_law_590 rfl (lv_at hl 0 rfl) ?_
        refine lv_iload_n X.1 X.2.1 dL_law_591 rfl (lv_at hl 3 rfl) ?_
        refine lv_iconst (v := 1) X.1 X.2.1 dL_law_592 (by decide) ?_
        refine lv_iadd X.1 X.2.1 dL_law_593 ?_
        have ho := rdS_e hf
        clear hf
        obtain ⟨v325, i326, q327, hf⟩ := ho
        refine va_sld X.1 X.2.1 hX hbl hbA hS i326 dL_law_594 ?_
        rw [q327]
        have ho := chk_e hf
        clear hf
        obtain ⟨a331, e332, k333, hf⟩ := ho
        cases e332
        have ho := bnd_e hf
        clear hf
        obtain ⟨v328, w329, q330, hf⟩ := ho
        refine q_cV X M hS hl.1 (ci := 6) (r := (RX6, TX6, 53)) (As := [.int v325]) (m_X6_collect a331 v325 _ _ q330) mlL_78 gm_560 gm_561 rfl (by decide) k333 rfl ⟨(Nat.le_of_ble_eq_true rfl), (Nat.le_of_ble_eq_true rfl)⟩ (rest := [.int v319]) rfl (Nat.le_of_ble_eq_true rfl) (mc := 0) (ms := 0) (MC := 600000) (MS := 7302249) rfl rfl rfl rfl (by omega) (by omega) dL_law_595 (st2 := [.int v328, .int v319]) rfl (fun H locs M hS => ?_)
        refine lv_icmp_eq (tgt := 945) X.1 X.2.1 dL_law_598 (by decide) (fun c334 => ?_) (fun c334 => ?_)
        · rw [if_pos c334] at hf
          exact (b_L_law_945 (nn := n) hX hbl hbA X ih) (some a322) (some a331) x3 w329 _ _ _ _ _ hf M hS (by omega) (by omega) (lv_sub hl [0, 1, 2, 3] rfl)
        · rw [if_neg c334] at hf
          refine lv_iconst (v := 0) X.1 X.2.1 dL_law_601 (by decide) ?_
          cases hf
      rw [if_neg c315] at hf
      by_cases c335 : (v12 &&& 31) = 13
      · rw [if_pos c335] at hf
        refine lv_tableIn (tgt := 603) (off := 550) X.1 X.2.1 dL_law_53 (by rw [c335]; decide) (by rw [c335]; decide) (by rw [c335]; rfl) (by decide) ?_
        refine q_aload_n X dL_law_603 rfl (lv_at hl 1 rfl) ?_
        refine q_aload_n X dL_law_604 rfl (lv_at hl 0 rfl) ?_
        refine lv_iload_n X.1 X.2.1 dL_law_605 rfl (lv_at hl 3 rfl) ?_
        refine lv_iconst (v := 1) X.1 X.2.1 dL_law_606 (by decide) ?_
        refine lv_iadd X.1 X.2.1 dL_law_607 ?_
        have ho := rdS_e hf
        clear hf
        obtain ⟨v336, i337, q338, hf⟩ := ho
        refine va_sld X.1 X.2.1 hX hbl hbA hS i337 dL_law_608 ?_
        rw [q338]
        have ho := chk_e hf
        clear hf
        obtain ⟨a342, e343, k344, hf⟩ := ho
        cases e343
        have ho := bnd_e hf
        clear hf
        obtain ⟨v339, w340, q341, hf⟩ := ho
        refine q_cV X M hS hl.1 (ci := 5) (r := (RX5, TX5, 9)) (As := [.int v336]) (m_X5_ticks a342 v336 _ _ q341) mlL_79 gm_564 gm_565 rfl (by decide) k344 rfl ⟨(Nat.le_of_ble_eq_true rfl), (Nat.le_of_ble_eq_true rfl)⟩ (rest := []) rfl (Nat.le_of_ble_eq_true rfl) (mc := 0) (ms := 0) (MC := 600000) (MS := 7302249) rfl rfl rfl rfl (by omega) (by omega) dL_law_609 (st2 := [.int v339]) rfl (fun H locs M hS => ?_)
        refine q_aload_n X dL_law_612 rfl (lv_at hl 2 rfl) ?_
        refine q_aload_n X dL_law_613 rfl (lv_at hl 0 rfl) ?_
        refine lv_iload_n X.1 X.2.1 dL_law_614 rfl (lv_at hl 3 rfl) ?_
        refine lv_iconst (v := 1) X.1 X.2.1 dL_law_615 (by decide) ?_
        refine lv_iadd X.1 X.2.1 dL_law_616 ?_
        have ho := rdS_e hf
        clear hf
        obtain ⟨v345, i346, q347, hf⟩ := ho
        refine va_sld X.1 X.2.1 hX hbl hbA hS i346 dL_law_617 ?_
        rw [q347]
        have ho := chk_e hf
        clear hf
        obtain ⟨a351, e352, k353, hf⟩ := ho
        cases e352
        have ho := bnd_e hf
        clear hf
        obtain ⟨v348, w349, q350, hf⟩ := ho
        refine q_cV X M hS hl.1 (ci := 6) (r := (RX6, TX6, 53)) (As := [.int v345]) (m_X6_ticks a351 v345 _ _ q350) mlL_82 gm_568 gm_569 rfl (by decide) k353 rfl ⟨(Nat.le_of_ble_eq_true rfl), (Nat.le_of_ble_eq_true rfl)⟩ (rest := [.int v339]) rfl (Nat.le_of_ble_eq_true rfl) (mc := 0) (ms := 0) (MC := 600000) (MS := 7302249) rfl rfl rfl rfl (by omega) (by omega) dL_law_618 (st2 := [.int v348, .int v339]) rfl (fun H locs M hS => ?_)
        refine lv_icmp_eq (tgt := 945) X.1 X.2.1 dL_law_621 (by decide) (fun c354 => ?_) (fun c354 => ?_)
        · rw [if_pos c354] at hf
          exact (b_L_law_945 (nn := n) hX hbl hbA X ih) (some a342) (some a351) x3 w349 _ _ _ _ _ hf M hS (by omega) (by omega) (lv_sub hl [0, 1, 2, 3] rfl)
        · rw [if_neg c354] at hf
          refine lv_iconst (v := 0) X.1 X.2.1 dL_law_624 (by decide) ?_
          cases hf
      rw [if_neg c335] at hf
      by_cases c355 : (v12 &&& 31) = 14
      · rw [if_pos c355] at hf
        refine lv_tableIn (tgt := 626) (off := 573) X.1 X.2.1 dL_law_53 (by rw [c355]; decide) (by rw [c355]; decide) (by rw [c355]; rfl) (by decide) ?_
        refine q_aload_n X dL_law_626 rfl (lv_at hl 1 rfl) ?_
        refine q_aload_n X dL_law_627 rfl (lv_at hl 0 rfl) ?_
        refine lv_iload_n X.1 X.2.1 dL_law_628 rfl (lv_at hl 3 rfl) ?_
        refine lv_iconst (v := 1) X.1 X.2.1 dL_law_629 (by decide) ?_
        refine lv_iadd X.1 X.2.1 dL_law_630 ?_
        have ho := rdS_e hf
        clear hf
        obtain ⟨v356, i357, q358, hf⟩ := ho
        refine va_sld X.1 X.2.1 hX hbl hbA hS i357 dL_law_631 ?_
        rw [q358]
        refine q_aload_n X dL_law_632 rfl (lv_at hl 0 rfl) ?_
        refine lv_iload_n X.1 X.2.1 dL_law_633 rfl (lv_at hl 3 rfl) ?_
        refine lv_iconst (v := 2) X.1 X.2.1 dL_law_634 (by decide) ?_
        refine lv_iadd X.1 X.2.1 dL_law_635 ?_
        have ho := rdS_e hf
        clear hf
        obtain ⟨v359, i360, q361, hf⟩ := ho
        refine va_sld X.1 X.2.1 hX hbl hbA hS i360 dL_law_636 ?_
        rw [q361]
        have ho := chk_e hf
        clear hf
        obtain ⟨a365, e366, k367, hf⟩ := ho
        cases e366
        have ho := bnd_e hf
        clear hf
        obtain ⟨v362, w363, q364, hf⟩ := ho
        refine q_cV X M hS hl.1 (ci := 5) (r := (RX5, TX5, 9)) (As := [.int v356, .int v359]) (m_X5_server a365 v356 v359 _ _ q364) mlL_83 gm_572 gm_573 rfl (by decide) k367 rfl ⟨(Nat.le_of_ble_eq_true rfl), (Nat.le_of_ble_eq_true rfl)⟩ (rest := []) rfl (Nat.le_of_ble_eq_true rfl) (mc := 0) (ms := 0) (MC := 600000) (MS := 7302249) rfl rfl rfl rfl (by omega) (by omega) dL_law_637 (st2 := [.int v362]) rfl (fun H locs M hS => ?_)
        refine q_aload_n X dL_law_640 rfl (lv_at hl 2 rfl) ?_
        refine q_aload_n X dL_law_641 rfl (lv_at hl 0 rfl) ?_
        refine lv_iload_n X.1 X.2.1 dL_law_642 rfl (lv_at hl 3 rfl) ?_
        refine lv_iconst (v := 1) X.1 X.2.1 dL_law_643 (by decide) ?_
        refine lv_iadd X.1 X.2.1 dL_law_644 ?_
        have ho := rdS_e hf
        clear hf
        obtain ⟨v368, i369, q370, hf⟩ := ho
        refine va_sld X.1 X.2.1 hX hbl hbA hS i369 dL_law_645 ?_
        rw [q370]
        refine q_aload_n X dL_law_646 rfl (lv_at hl 0 rfl) ?_
        refine lv_iload_n X.1 X.2.1 dL_law_647 rfl (lv_at hl 3 rfl) ?_
        refine lv_iconst (v := 2) X.1 X.2.1 dL_law_648 (by decide) ?_
        refine lv_iadd X.1 X.2.1 dL_law_649 ?_
        have ho := rdS_e hf
        clear hf
        obtain ⟨v371, i372, q373, hf⟩ := ho
        refine va_sld X.1 X.2.1 hX hbl hbA hS i372 dL_law_650 ?_
        rw [q373]
        have ho := chk_e hf
        clear hf
        obtain ⟨a377, e378, k379, hf⟩ := ho
        cases e378
        have ho := bnd_e hf
        clear hf
        obtain ⟨v374, w375, q376, hf⟩ := ho
        refine q_cV X M hS hl.1 (ci := 6) (r := (RX6, TX6, 53)) (As := [.int v368, .int v371]) (m_X6_server a377 v368 v371 _ _ q376) mlL_86 gm_584 gm_585 rfl (by decide) k379 rfl ⟨(Nat.le_of_ble_eq_true rfl), (Nat.le_of_ble_eq_true rfl)⟩ (rest := [.int v362]) rfl (Nat.le_of_ble_eq_true rfl) (mc := 0) (ms := 0) (MC := 600000) (MS := 7302249) rfl rfl rfl rfl (by omega) (by omega) dL_law_651 (st2 := [.int v374, .int v362]) rfl (fun H locs M hS => ?_)
        refine lv_icmp_eq (tgt := 945) X.1 X.2.1 dL_law_654 (by decide) (fun c380 => ?_) (fun c380 => ?_)
        · rw [if_pos c380] at hf
          exact (b_L_law_945 (nn := n) hX hbl hbA X ih) (some a365) (some a377) x3 w375 _ _ _ _ _ hf M hS (by omega) (by omega) (lv_sub hl [0, 1, 2, 3] rfl)
        · rw [if_neg c380] at hf
          refine lv_iconst (v := 0) X.1 X.2.1 dL_law_657 (by decide) ?_
          cases hf
      rw [if_neg c355] at hf
      by_cases c381 : (v12 &&& 31) = 15
      · rw [if_pos c381] at hf
        refine lv_tableIn (tgt := 659) (off := 606) X.1 X.2.1 dL_law_53 (by rw [c381]; decide) (by rw [c381]; decide) (by rw [c381]; rfl) (by decide) ?_
        refine q_aload_n X dL_law_659 rfl (lv_at hl 1 rfl) ?_
        refine q_aload_n X dL_law_660 rfl (lv_at hl 0 rfl) ?_
        refine lv_iload_n X.1 X.2.1 dL_law_661 rfl (lv_at hl 3 rfl) ?_
        refine lv_iconst (v := 1) X.1 X.2.1 dL_law_662 (by decide) ?_
        refine lv_iadd X.1 X.2.1 dL_law_663 ?_
        have ho := rdS_e hf
        clear hf
        obtain ⟨v382, i383, q384, hf⟩ := ho
        refine va_sld X.1 X.2.1 hX hbl hbA hS i383 dL_law_664 ?_
        rw [q384]
        refine q_aload_n X dL_law_665 rfl (lv_at hl 0 rfl) ?_
        refine lv_iload_n X.1 X.2.1 dL_law_666 rfl (lv_at hl 3 rfl) ?_
        refine lv_iconst (v := 2) X.1 X.2.1 dL_law_667 (by decide) ?_
        refine lv_iadd X.1 X.2.1 dL_law_668 ?_
        have ho := rdS_e hf
        clear hf
        obtain ⟨v385, i386, q387, hf⟩ := ho
        refine va_sld X.1 X.2.1 hX hbl hbA hS i386 dL_law_669 ?_
        rw [q387]
        refine q_aload_n X dL_law_670 rfl (lv_at hl 0 rfl) ?_
        refine lv_iload_n X.1 X.2.1 dL_law_671 rfl (lv_at hl 3 rfl) ?_
        refine lv_iconst (v := 3) X.1 X.2.1 dL_law_672 (by decide) ?_
        refine lv_iadd X.1 X.2.1 dL_law_673 ?_
        have ho := rdS_e hf
        clear hf
        obtain ⟨v388, i389, q390, hf⟩ := ho
        refine va_sld X.1 X.2.1 hX hbl hbA hS i389 dL_law_674 ?_
        rw [q390]
        have ho := chk_e hf
        clear hf
        obtain ⟨a394, e395, k396, hf⟩ := ho
        cases e395
        have ho := bnd_e hf
        clear hf
        obtain ⟨v391, w392, q393, hf⟩ := ho
        refine q_cV X M hS hl.1 (ci := 5) (r := (RX5, TX5, 9)) (As := [.int v382, .int v385, .int v388]) (m_X5_bucket a394 v382 v385 v388 _ _ q393) mlL_87 gm_588 gm_589 rfl (by decide) k396 rfl ⟨(Nat.le_of_ble_eq_true rfl), (Nat.le_of_ble_eq_true rfl)⟩ (rest := []) rfl (Nat.le_of_ble_eq_true rfl) (mc := 0) (ms := 0) (MC := 600000) (MS := 7302249) rfl rfl rfl rfl (by omega) (by omega) dL_law_675 (st2 := [.int v391]) rfl (fun H locs M hS => ?_)
        refine q_aload_n X dL_law_678 rfl (lv_at hl 2 rfl) ?_
        refine q_aload_n X dL_law_679 rfl (lv_at hl 0 rfl) ?_
        refine lv_iload_n X.1 X.2.1 dL_law_680 rfl (lv_at hl 3 rfl) ?_
        refine lv_iconst (v := 1) X.1 X.2.1 dL_law_681 (by decide) ?_
        refine lv_iadd X.1 X.2.1 dL_law_682 ?_
        have ho := rdS_e hf
        clear hf
        obtain ⟨v397, i398, q399, hf⟩ := ho
        refine va_sld X.1 X.2.1 hX hbl hbA hS i398 dL_law_683 ?_
        rw [q399]
        refine q_aload_n X dL_law_684 rfl (lv_at hl 0 rfl) ?_
        refine lv_iload_n X.1 X.2.1 dL_law_685 rfl (lv_at hl 3 rfl) ?_
        refine lv_iconst (v := 2) X.1 X.2.1 dL_law_686 (by decide) ?_
        refine lv_iadd X.1 X.2.1 dL_law_687 ?_
        have ho := rdS_e hf
        clear hf
        obtain ⟨v400, i401, q402, hf⟩ := ho
        refine va_sld X.1 X.2.1 hX hbl hbA hS i401 dL_law_688 ?_
        rw [q402]
        refine q_aload_n X dL_law_689 rfl (lv_at hl 0 rfl) ?_
        refine lv_iload_n X.1 X.2.1 dL_law_690 rfl (lv_at hl 3 rfl) ?_
        refine lv_iconst (v := 3) X.1 X.2.1 dL_law_691 (by decide) ?_
        refine lv_iadd X.1 X.2.1 dL_law_692 ?_
        have ho := rdS_e hf
        clear hf
        obtain ⟨v403, i404, q405, hf⟩ := ho
        refine va_sld X.1 X.2.1 hX hbl hbA hS i404 dL_law_693 ?_
        rw [q405]
        have ho := chk_e hf
        clear hf
        obtain ⟨a409, e410, k411, hf⟩ := ho
        cases e410
        have ho := bnd_e hf
        clear hf
        obtain ⟨v406, w407, q408, hf⟩ := ho
        refine q_cV X M hS hl.1 (ci := 6) (r := (RX6, TX6, 53)) (As := [.int v397, .int v400, .int v403]) (m_X6_bucket a409 v397 v400 v403 _ _ q408) mlL_90 gm_598 gm_599 rfl (by decide) k411 rfl ⟨(Nat.le_of_ble_eq_true rfl), (Nat.le_of_ble_eq_true rfl)⟩ (rest := [.int v391]) rfl (Nat.le_of_ble_eq_true rfl) (mc := 0) (ms := 0) (MC := 600000) (MS := 7302249) rfl rfl rfl rfl (by omega) (by omega) dL_law_694 (st2 := [.int v406, .int v391]) rfl (fun H locs M hS => ?_)
        refine lv_icmp_eq (tgt := 945) X.1 X.2.1 dL_law_697 (by decide) (fun c412 => ?_) (fun c412 => ?_)
        · rw [if_pos c412] at hf
          exact (b_L_law_945 (nn := n) hX hbl hbA X ih) (some a394) (some a409) x3 w407 _ _ _ _ _ hf M hS (by omega) (by omega) (lv_sub hl [0, 1, 2, 3] rfl)
        · rw [if_neg c412] at hf
          refine lv_iconst (v := 0) X.1 X.2.1 dL_law_700 (by decide) ?_
          cases hf
      rw [if_neg c381] at hf
      by_cases c413 : (v12 &&& 31) = 16
      · rw [if_pos c413] at hf
        refine lv_tableIn (tgt := 702) (off := 649) X.1 X.2.1 dL_law_53 (by rw [c413]; decide) (by rw [c413]; decide) (by rw [c413]; rfl) (by decide) ?_
        refine q_aload_n X dL_law_702 rfl (lv_at hl 1 rfl) ?_
        refine q_aload_n X dL_law_703 rfl (lv_at hl 0 rfl) ?_
        refine lv_iload_n X.1 X.2.1 dL_law_704 rfl (lv_at hl 3 rfl) ?_
        refine lv_iconst (v := 1) X.1 X.2.1 dL_law_705 (by decide) ?_
        refine lv_iadd X.1 X.2.1 dL_law_706 ?_
        have ho := rdS_e hf
        clear hf
        obtain ⟨v414, i415, q416, hf⟩ := ho
        refine va_sld X.1 X.2.1 hX hbl hbA hS i415 dL_law_707 ?_
        rw [q416]
        refine q_aload_n X dL_law_708 rfl (lv_at hl 0 rfl) ?_
        refine lv_iload_n X.1 X.2.1 dL_law_709 rfl (lv_at hl 3 rfl) ?_
        refine lv_iconst (v := 2) X.1 X.2.1 dL_law_710 (by decide) ?_
        refine lv_iadd X.1 X.2.1 dL_law_711 ?_
        have ho := rdS_e hf
        clear hf
        obtain ⟨v417, i418, q419, hf⟩ := ho
        refine va_sld X.1 X.2.1 hX hbl hbA hS i418 dL_law_712 ?_
        rw [q419]
        have ho := chk_e hf
        clear hf
        obtain ⟨a423, e424, k425, hf⟩ := ho
        cases e424
        have ho := bnd_e hf
        clear hf
        obtain ⟨v420, w421, q422, hf⟩ := ho
        refine q_cV X M hS hl.1 (ci := 5) (r := (RX5, TX5, 9)) (As := [.int v414, .int v417]) (m_X5_value a423 v414 v417 _ _ q422) mlL_91 gm_606 gm_607 rfl (by decide) k425 rfl ⟨(Nat.le_of_ble_eq_true rfl), (Nat.le_of_ble_eq_true rfl)⟩ (rest := []) rfl (Nat.le_of_ble_eq_true rfl) (mc := 0) (ms := 0) (MC := 600000) (MS := 7302249) rfl rfl rfl rfl (by omega) (by omega) dL_law_713 (st2 := [.long v420]) rfl (fun H locs M hS => ?_)
        refine q_aload_n X dL_law_716 rfl (lv_at hl 2 rfl) ?_
        refine q_aload_n X dL_law_717 rfl (lv_at hl 0 rfl) ?_
        refine lv_iload_n X.1 X.2.1 dL_law_718 rfl (lv_at hl 3 rfl) ?_
        refine lv_iconst (v := 1) X.1 X.2.1 dL_law_719 (by decide) ?_
        refine lv_iadd X.1 X.2.1 dL_law_720 ?_
        have ho := rdS_e hf
        clear hf
        obtain ⟨v426, i427, q428, hf⟩ := ho
        refine va_sld X.1 X.2.1 hX hbl hbA hS i427 dL_law_721 ?_
        rw [q428]
        refine q_aload_n X dL_law_722 rfl (lv_at hl 0 rfl) ?_
        refine lv_iload_n X.1 X.2.1 dL_law_723 rfl (lv_at hl 3 rfl) ?_
        refine lv_iconst (v := 2) X.1 X.2.1 dL_law_724 (by decide) ?_
        refine lv_iadd X.1 X.2.1 dL_law_725 ?_
        have ho := rdS_e hf
        clear hf
        obtain ⟨v429, i430, q431, hf⟩ := ho
        refine va_sld X.1 X.2.1 hX hbl hbA hS i430 dL_law_726 ?_
        rw [q431]
        have ho := chk_e hf
        clear hf
        obtain ⟨a435, e436, k437, hf⟩ := ho
        cases e436
        have ho := bnd_e hf
        clear hf
        obtain ⟨v432, w433, q434, hf⟩ := ho
        refine q_cV X M hS hl.1 (ci := 6) (r := (RX6, TX6, 53)) (As := [.int v426, .int v429]) (m_X6_value a435 v426 v429 _ _ q434) mlL_95 gm_612 gm_613 rfl (by decide) k437 rfl ⟨(Nat.le_of_ble_eq_true rfl), (Nat.le_of_ble_eq_true rfl)⟩ (rest := [.long v420]) rfl (Nat.le_of_ble_eq_true rfl) (mc := 0) (ms := 0) (MC := 600000) (MS := 7302249) rfl rfl rfl rfl (by omega) (by omega) dL_law_727 (st2 := [.long v432, .long v420]) rfl (fun H locs M hS => ?_)
        refine W.lcmp X.1 X.2.1 dL_law_730 ?_
        refine lv_if_eq (tgt := 945) X.1 X.2.1 dL_law_731 (by decide) (fun c438 => ?_) (fun c438 => ?_)
        · rw [if_pos c438] at hf
          exact (b_L_law_945 (nn := n) hX hbl hbA X ih) (some a423) (some a435) x3 w433 _ _ _ _ _ hf M hS (by omega) (by omega) (lv_sub hl [0, 1, 2, 3] rfl)
        · rw [if_neg c438] at hf
          refine lv_iconst (v := 0) X.1 X.2.1 dL_law_734 (by decide) ?_
          cases hf
      rw [if_neg c413] at hf
      by_cases c439 : (v12 &&& 31) = 17
      · rw [if_pos c439] at hf
        refine lv_tableIn (tgt := 736) (off := 683) X.1 X.2.1 dL_law_53 (by rw [c439]; decide) (by rw [c439]; decide) (by rw [c439]; rfl) (by decide) ?_
        refine q_aload_n X dL_law_736 rfl (lv_at hl 1 rfl) ?_
        refine q_aload_n X dL_law_737 rfl (lv_at hl 0 rfl) ?_
        refine lv_iload_n X.1 X.2.1 dL_law_738 rfl (lv_at hl 3 rfl) ?_
        refine lv_iconst (v := 1) X.1 X.2.1 dL_law_739 (by decide) ?_
        refine lv_iadd X.1 X.2.1 dL_law_740 ?_
        have ho := rdS_e hf
        clear hf
        obtain ⟨v440, i441, q442, hf⟩ := ho
        refine va_sld X.1 X.2.1 hX hbl hbA hS i441 dL_law_741 ?_
        rw [q442]
        refine q_aload_n X dL_law_742 rfl (lv_at hl 0 rfl) ?_
        refine lv_iload_n X.1 X.2.1 dL_law_743 rfl (lv_at hl 3 rfl) ?_
        refine lv_iconst (v := 2) X.1 X.2.1 dL_law_744 (by decide) ?_
        refine lv_iadd X.1 X.2.1 dL_law_745 ?_
        have ho := rdS_e hf
        clear hf
        obtain ⟨v443, i444, q445, hf⟩ := ho
        refine va_sld X.1 X.2.1 hX hbl hbA hS i444 dL_law_746 ?_
        rw [q445]
        refine q_aload_n X dL_law_747 rfl (lv_at hl 0 rfl) ?_
        refine lv_iload_n X.1 X.2.1 dL_law_748 rfl (lv_at hl 3 rfl) ?_
        refine lv_iconst (v := 3) X.1 X.2.1 dL_law_749 (by decide) ?_
        refine lv_iadd X.1 X.2.1 dL_law_750 ?_
        have ho := rdS_e hf
        clear hf
        obtain ⟨v446, i447, q448, hf⟩ := ho
        refine va_sld X.1 X.2.1 hX hbl hbA hS i447 dL_law_751 ?_
        rw [q448]
        refine q_aload_n X dL_law_752 rfl (lv_at hl 0 rfl) ?_
        refine lv_iload_n X.1 X.2.1 dL_law_753 rfl (lv_at hl 3 rfl) ?_
        refine lv_iconst (v := 4) X.1 X.2.1 dL_law_754 (by decide) ?_
        refine lv_iadd X.1 X.2.1 dL_law_755 ?_
        have ho := rdS_e hf
        clear hf
        obtain ⟨v449, i450, q451, hf⟩ := ho
        refine va_sld X.1 X.2.1 hX hbl hbA hS i450 dL_law_756 ?_
        rw [q451]
        have ho := chk_e hf
        clear hf
        obtain ⟨a455, e456, k457, hf⟩ := ho
        cases e456
        have ho := bnd_e hf
        clear hf
        obtain ⟨v452, w453, q454, hf⟩ := ho
        refine q_cV X M hS hl.1 (ci := 5) (r := (RX5, TX5, 9)) (As := [.int v440, .int v443, .int v446, .int v449]) (m_X5_record a455 v440 v443 v446 v449 _ _ q454) mlL_96 gm_616 gm_617 rfl (by decide) k457 rfl ⟨(Nat.le_of_ble_eq_true rfl), (Nat.le_of_ble_eq_true rfl)⟩ (rest := []) rfl (Nat.le_of_ble_eq_true rfl) (mc := 0) (ms := 0) (MC := 600000) (MS := 7302249) rfl rfl rfl rfl (by omega) (by omega) dL_law_757 (st2 := [.int v452]) rfl (fun H locs M hS => ?_)
        refine q_aload_n X dL_law_760 rfl (lv_at hl 2 rfl) ?_
        refine q_aload_n X dL_law_761 rfl (lv_at hl 0 rfl) ?_
        refine lv_iload_n X.1 X.2.1 dL_law_762 rfl (lv_at hl 3 rfl) ?_
        refine lv_iconst (v := 1) X.1 X.2.1 dL_law_763 (by decide) ?_
        refine lv_iadd X.1 X.2.1 dL_law_764 ?_
        have ho := rdS_e hf
        clear hf
        obtain ⟨v458, i459, q460, hf⟩ := ho
        refine va_sld X.1 X.2.1 hX hbl hbA hS i459 dL_law_765 ?_
        rw [q460]
        refine q_aload_n X dL_law_766 rfl (lv_at hl 0 rfl) ?_
        refine lv_iload_n X.1 X.2.1 dL_law_767 rfl (lv_at hl 3 rfl) ?_
        refine lv_iconst (v := 2) X.1 X.2.1 dL_law_768 (by decide) ?_
        refine lv_iadd X.1 X.2.1 dL_law_769 ?_
        have ho := rdS_e hf
        clear hf
        obtain ⟨v461, i462, q463, hf⟩ := ho
        refine va_sld X.1 X.2.1 hX hbl hbA hS i462 dL_law_770 ?_
        rw [q463]
        refine q_aload_n X dL_law_771 rfl (lv_at hl 0 rfl) ?_
        refine lv_iload_n X.1 X.2.1 dL_law_772 rfl (lv_at hl 3 rfl) ?_
        refine lv_iconst (v := 3) X.1 X.2.1 dL_law_773 (by decide) ?_
        refine lv_iadd X.1 X.2.1 dL_law_774 ?_
        have ho := rdS_e hf
        clear hf
        obtain ⟨v464, i465, q466, hf⟩ := ho
        refine va_sld X.1 X.2.1 hX hbl hbA hS i465 dL_law_775 ?_
        rw [q466]
        refine q_aload_n X dL_law_776 rfl (lv_at hl 0 rfl) ?_
        refine lv_iload_n X.1 X.2.1 dL_law_777 rfl (lv_at hl 3 rfl) ?_
        refine lv_iconst (v := 4) X.1 X.2.1 dL_law_778 (by decide) ?_
        refine lv_iadd X.1 X.2.1 dL_law_779 ?_
        have ho := rdS_e hf
        clear hf
        obtain ⟨v467, i468, q469, hf⟩ := ho
        refine va_sld X.1 X.2.1 hX hbl hbA hS i468 dL_law_780 ?_
        rw [q469]
        have ho := chk_e hf
        clear hf
        obtain ⟨a473, e474, k475, hf⟩ := ho
        cases e474
        have ho := bnd_e hf
        clear hf
        obtain ⟨v470, w471, q472, hf⟩ := ho
        refine q_cV X M hS hl.1 (ci := 6) (r := (RX6, TX6, 53)) (As := [.int v458, .int v461, .int v464, .int v467]) (m_X6_record a473 v458 v461 v464 v467 _ _ q472) mlL_100 gm_621 gm_622 rfl (by decide) k475 rfl ⟨(Nat.le_of_ble_eq_true rfl), (Nat.le_of_ble_eq_true rfl)⟩ (rest := [.int v452]) rfl (Nat.le_of_ble_eq_true rfl) (mc := 0) (ms := 0) (MC := 600000) (MS := 7302249) rfl rfl rfl rfl (by omega) (by omega) dL_law_781 (st2 := [.int v470, .int v452]) rfl (fun H locs M hS => ?_)
        refine lv_icmp_eq (tgt := 945) X.1 X.2.1 dL_law_784 (by decide) (fun c476 => ?_) (fun c476 => ?_)
        · rw [if_pos c476] at hf
          exact (b_L_law_945 (nn := n) hX hbl hbA X ih) (some a455) (some a473) x3 w471 _ _ _ _ _ hf M hS (by omega) (by omega) (lv_sub hl [0, 1, 2, 3] rfl)
        · rw [if_neg c476] at hf
          refine lv_iconst (v := 0) X.1 X.2.1 dL_law_787 (by decide) ?_
          cases hf
      rw [if_neg c439] at hf
      by_cases c477 : (v12 &&& 31) = 18
      · rw [if_pos c477] at hf
        refine lv_tableIn (tgt := 789) (off := 736) X.1 X.2.1 dL_law_53 (by rw [c477]; decide) (by rw [c477]; decide) (by rw [c477]; rfl) (by decide) ?_
        refine q_aload_n X dL_law_789 rfl (lv_at hl 1 rfl) ?_
        refine q_aload_n X dL_law_790 rfl (lv_at hl 0 rfl) ?_
        refine lv_iload_n X.1 X.2.1 dL_law_791 rfl (lv_at hl 3 rfl) ?_
        refine lv_iconst (v := 1) X.1 X.2.1 dL_law_792 (by decide) ?_
        refine lv_iadd X.1 X.2.1 dL_law_793 ?_
        have ho := rdS_e hf
        clear hf
        obtain ⟨v478, i479, q480, hf⟩ := ho
        refine va_sld X.1 X.2.1 hX hbl hbA hS i479 dL_law_794 ?_
        rw [q480]
        refine q_aload_n X dL_law_795 rfl (lv_at hl 0 rfl) ?_
        refine lv_iload_n X.1 X.2.1 dL_law_796 rfl (lv_at hl 3 rfl) ?_
        refine lv_iconst (v := 2) X.1 X.2.1 dL_law_797 (by decide) ?_
        refine lv_iadd X.1 X.2.1 dL_law_798 ?_
        have ho := rdS_e hf
        clear hf
        obtain ⟨v481, i482, q483, hf⟩ := ho
        refine va_sld X.1 X.2.1 hX hbl hbA hS i482 dL_law_799 ?_
        rw [q483]
        have ho := chk_e hf
        clear hf
        obtain ⟨a487, e488, k489, hf⟩ := ho
        cases e488
        have ho := bnd_e hf
        clear hf
        obtain ⟨v484, w485, q486, hf⟩ := ho
        refine q_cV X M hS hl.1 (ci := 5) (r := (RX5, TX5, 9)) (As := [.int v478, .int v481]) (m_X5_client a487 v478 v481 _ _ q486) mlL_101 gm_625 gm_626 rfl (by decide) k489 rfl ⟨(Nat.le_of_ble_eq_true rfl), (Nat.le_of_ble_eq_true rfl)⟩ (rest := []) rfl (Nat.le_of_ble_eq_true rfl) (mc := 0) (ms := 0) (MC := 600000) (MS := 7302249) rfl rfl rfl rfl (by omega) (by omega) dL_law_800 (st2 := [.int v484]) rfl (fun H locs M hS => ?_)
        refine q_aload_n X dL_law_803 rfl (lv_at hl 2 rfl) ?_
        refine q_aload_n X dL_law_804 rfl (lv_at hl 0 rfl) ?_
        refine lv_iload_n X.1 X.2.1 dL_law_805 rfl (lv_at hl 3 rfl) ?_
        refine lv_iconst (v := 1) X.1 X.2.1 dL_law_806 (by decide) ?_
        refine lv_iadd X.1 X.2.1 dL_law_807 ?_
        have ho := rdS_e hf
        clear hf
        obtain ⟨v490, i491, q492, hf⟩ := ho
        refine va_sld X.1 X.2.1 hX hbl hbA hS i491 dL_law_808 ?_
        rw [q492]
        refine q_aload_n X dL_law_809 rfl (lv_at hl 0 rfl) ?_
        refine lv_iload_n X.1 X.2.1 dL_law_810 rfl (lv_at hl 3 rfl) ?_
        refine lv_iconst (v := 2) X.1 X.2.1 dL_law_811 (by decide) ?_
        refine lv_iadd X.1 X.2.1 dL_law_812 ?_
        have ho := rdS_e hf
        clear hf
        obtain ⟨v493, i494, q495, hf⟩ := ho
        refine va_sld X.1 X.2.1 hX hbl hbA hS i494 dL_law_813 ?_
        rw [q495]
        have ho := chk_e hf
        clear hf
        obtain ⟨a499, e500, k501, hf⟩ := ho
        cases e500
        have ho := bnd_e hf
        clear hf
        obtain ⟨v496, w497, q498, hf⟩ := ho
        refine q_cV X M hS hl.1 (ci := 6) (r := (RX6, TX6, 53)) (As := [.int v490, .int v493]) (m_X6_client a499 v490 v493 _ _ q498) mlL_104 gm_629 gm_630 rfl (by decide) k501 rfl ⟨(Nat.le_of_ble_eq_true rfl), (Nat.le_of_ble_eq_true rfl)⟩ (rest := [.int v484]) rfl (Nat.le_of_ble_eq_true rfl) (mc := 0) (ms := 0) (MC := 600000) (MS := 7302249) rfl rfl rfl rfl (by omega) (by omega) dL_law_814 (st2 := [.int v496, .int v484]) rfl (fun H locs M hS => ?_)
        refine lv_icmp_eq (tgt := 945) X.1 X.2.1 dL_law_817 (by decide) (fun c502 => ?_) (fun c502 => ?_)
        · rw [if_pos c502] at hf
          exact (b_L_law_945 (nn := n) hX hbl hbA X ih) (some a487) (some a499) x3 w497 _ _ _ _ _ hf M hS (by omega) (by omega) (lv_sub hl [0, 1, 2, 3] rfl)
        · rw [if_neg c502] at hf
          refine lv_iconst (v := 0) X.1 X.2.1 dL_law_820 (by decide) ?_
          cases hf
      rw [if_neg c477] at hf
      by_cases c503 : (v12 &&& 31) = 19
      · rw [if_pos c503] at hf
        refine lv_tableIn (tgt := 822) (off := 769) X.1 X.2.1 dL_law_53 (by rw [c503]; decide) (by rw [c503]; decide) (by rw [c503]; rfl) (by decide) ?_
        refine q_aload_n X dL_law_822 rfl (lv_at hl 1 rfl) ?_
        refine q_aload_n X dL_law_823 rfl (lv_at hl 0 rfl) ?_
        refine lv_iload_n X.1 X.2.1 dL_law_824 rfl (lv_at hl 3 rfl) ?_
        refine lv_iconst (v := 1) X.1 X.2.1 dL_law_825 (by decide) ?_
        refine lv_iadd X.1 X.2.1 dL_law_826 ?_
        have ho := rdS_e hf
        clear hf
        obtain ⟨v504, i505, q506, hf⟩ := ho
        refine va_sld X.1 X.2.1 hX hbl hbA hS i505 dL_law_827 ?_
        rw [q506]
        refine q_aload_n X dL_law_828 rfl (lv_at hl 0 rfl) ?_
        refine lv_iload_n X.1 X.2.1 dL_law_829 rfl (lv_at hl 3 rfl) ?_
        refine lv_iconst (v := 2) X.1 X.2.1 dL_law_830 (by decide) ?_
        refine lv_iadd X.1 X.2.1 dL_law_831 ?_
        have ho := rdS_e hf
        clear hf
        obtain ⟨v507, i508, q509, hf⟩ := ho
        refine va_sld X.1 X.2.1 hX hbl hbA hS i508 dL_law_832 ?_
        rw [q509]
        have ho := chk_e hf
        clear hf
        obtain ⟨a513, e514, k515, hf⟩ := ho
        cases e514
        have ho := bnd_e hf
        clear hf
        obtain ⟨v510, w511, q512, hf⟩ := ho
        refine q_cV X M hS hl.1 (ci := 5) (r := (RX5, TX5, 9)) (As := [.int v504, .int v507]) (m_X5_state a513 v504 v507 _ _ q512) mlL_105 gm_633 gm_634 rfl (by decide) k515 rfl ⟨(Nat.le_of_ble_eq_true rfl), (Nat.le_of_ble_eq_true rfl)⟩ (rest := []) rfl (Nat.le_of_ble_eq_true rfl) (mc := 0) (ms := 0) (MC := 600000) (MS := 7302249) rfl rfl rfl rfl (by omega) (by omega) dL_law_833 (st2 := [.int v510]) rfl (fun H locs M hS => ?_)
        refine q_aload_n X dL_law_836 rfl (lv_at hl 2 rfl) ?_
        refine q_aload_n X dL_law_837 rfl (lv_at hl 0 rfl) ?_
        refine lv_iload_n X.1 X.2.1 dL_law_838 rfl (lv_at hl 3 rfl) ?_
        refine lv_iconst (v := 1) X.1 X.2.1 dL_law_839 (by decide) ?_
        refine lv_iadd X.1 X.2.1 dL_law_840 ?_
        have ho := rdS_e hf
        clear hf
        obtain ⟨v516, i517, q518, hf⟩ := ho
        refine va_sld X.1 X.2.1 hX hbl hbA hS i517 dL_law_841 ?_
        rw [q518]
        refine q_aload_n X dL_law_842 rfl (lv_at hl 0 rfl) ?_
        refine lv_iload_n X.1 X.2.1 dL_law_843 rfl (lv_at hl 3 rfl) ?_
        refine lv_iconst (v := 2) X.1 X.2.1 dL_law_844 (by decide) ?_
        refine lv_iadd X.1 X.2.1 dL_law_845 ?_
        have ho := rdS_e hf
        clear hf
        obtain ⟨v519, i520, q521, hf⟩ := ho
        refine va_sld X.1 X.2.1 hX hbl hbA hS i520 dL_law_846 ?_
        rw [q521]
        have ho := chk_e hf
        clear hf
        obtain ⟨a525, e526, k527, hf⟩ := ho
        cases e526
        have ho := bnd_e hf
        clear hf
        obtain ⟨v522, w523, q524, hf⟩ := ho
        refine q_cV X M hS hl.1 (ci := 6) (r := (RX6, TX6, 53)) (As := [.int v516, .int v519]) (m_X6_state a525 v516 v519 _ _ q524) mlL_108 gm_637 gm_638 rfl (by decide) k527 rfl ⟨(Nat.le_of_ble_eq_true rfl), (Nat.le_of_ble_eq_true rfl)⟩ (rest := [.int v510]) rfl (Nat.le_of_ble_eq_true rfl) (mc := 0) (ms := 0) (MC := 600000) (MS := 7302249) rfl rfl rfl rfl (by omega) (by omega) dL_law_847 (st2 := [.int v522, .int v510]) rfl (fun H locs M hS => ?_)
        refine lv_icmp_eq (tgt := 945) X.1 X.2.1 dL_law_850 (by decide) (fun c528 => ?_) (fun c528 => ?_)
        · rw [if_pos c528] at hf
          exact (b_L_law_945 (nn := n) hX hbl hbA X ih) (some a513) (some a525) x3 w523 _ _ _ _ _ hf M hS (by omega) (by omega) (lv_sub hl [0, 1, 2, 3] rfl)
        · rw [if_neg c528] at hf
          refine lv_iconst (v := 0) X.1 X.2.1 dL_law_853 (by decide) ?_
          cases hf
      rw [if_neg c503] at hf
      by_cases c529 : (v12 &&& 31) = 20
      · rw [if_pos c529] at hf
        refine lv_tableIn (tgt := 855) (off := 802) X.1 X.2.1 dL_law_53 (by rw [c529]; decide) (by rw [c529]; decide) (by rw [c529]; rfl) (by decide) ?_
        refine q_aload_n X dL_law_855 rfl (lv_at hl 1 rfl) ?_
        refine q_aload_n X dL_law_856 rfl (lv_at hl 0 rfl) ?_
        refine lv_iload_n X.1 X.2.1 dL_law_857 rfl (lv_at hl 3 rfl) ?_
        refine lv_iconst (v := 1) X.1 X.2.1 dL_law_858 (by decide) ?_
        refine lv_iadd X.1 X.2.1 dL_law_859 ?_
        have ho := rdS_e hf
        clear hf
        obtain ⟨v530, i531, q532, hf⟩ := ho
        refine va_sld X.1 X.2.1 hX hbl hbA hS i531 dL_law_860 ?_
        rw [q532]
        refine q_aload_n X dL_law_861 rfl (lv_at hl 0 rfl) ?_
        refine lv_iload_n X.1 X.2.1 dL_law_862 rfl (lv_at hl 3 rfl) ?_
        refine lv_iconst (v := 2) X.1 X.2.1 dL_law_863 (by decide) ?_
        refine lv_iadd X.1 X.2.1 dL_law_864 ?_
        have ho := rdS_e hf
        clear hf
        obtain ⟨v533, i534, q535, hf⟩ := ho
        refine va_sld X.1 X.2.1 hX hbl hbA hS i534 dL_law_865 ?_
        rw [q535]
        have ho := chk_e hf
        clear hf
        obtain ⟨a539, e540, k541, hf⟩ := ho
        cases e540
        have ho := bnd_e hf
        clear hf
        obtain ⟨v536, w537, q538, hf⟩ := ho
        refine q_cV X M hS hl.1 (ci := 5) (r := (RX5, TX5, 9)) (As := [.int v530, .int v533]) (m_X5_result a539 v530 v533 _ _ q538) mlL_109 gm_641 gm_642 rfl (by decide) k541 rfl ⟨(Nat.le_of_ble_eq_true rfl), (Nat.le_of_ble_eq_true rfl)⟩ (rest := []) rfl (Nat.le_of_ble_eq_true rfl) (mc := 0) (ms := 0) (MC := 600000) (MS := 7302249) rfl rfl rfl rfl (by omega) (by omega) dL_law_866 (st2 := [.long v536]) rfl (fun H locs M hS => ?_)
        refine q_aload_n X dL_law_869 rfl (lv_at hl 2 rfl) ?_
        refine q_aload_n X dL_law_870 rfl (lv_at hl 0 rfl) ?_
        refine lv_iload_n X.1 X.2.1 dL_law_871 rfl (lv_at hl 3 rfl) ?_
        refine lv_iconst (v := 1) X.1 X.2.1 dL_law_872 (by decide) ?_
        refine lv_iadd X.1 X.2.1 dL_law_873 ?_
        have ho := rdS_e hf
        clear hf
        obtain ⟨v542, i543, q544, hf⟩ := ho
        refine va_sld X.1 X.2.1 hX hbl hbA hS i543 dL_law_874 ?_
        rw [q544]
        refine q_aload_n X dL_law_875 rfl (lv_at hl 0 rfl) ?_
        refine lv_iload_n X.1 X.2.1 dL_law_876 rfl (lv_at hl 3 rfl) ?_
        refine lv_iconst (v := 2) X.1 X.2.1 dL_law_877 (by decide) ?_
        refine lv_iadd X.1 X.2.1 dL_law_878 ?_
        have ho := rdS_e hf
        clear hf
        obtain ⟨v545, i546, q547, hf⟩ := ho
        refine va_sld X.1 X.2.1 hX hbl hbA hS i546 dL_law_879 ?_
        rw [q547]
        have ho := chk_e hf
        clear hf
        obtain ⟨a551, e552, k553, hf⟩ := ho
        cases e552
        have ho := bnd_e hf
        clear hf
        obtain ⟨v548, w549, q550, hf⟩ := ho
        refine q_cV X M hS hl.1 (ci := 6) (r := (RX6, TX6, 53)) (As := [.int v542, .int v545]) (m_X6_result a551 v542 v545 _ _ q550) mlL_112 gm_645 gm_646 rfl (by decide) k553 rfl ⟨(Nat.le_of_ble_eq_true rfl), (Nat.le_of_ble_eq_true rfl)⟩ (rest := [.long v536]) rfl (Nat.le_of_ble_eq_true rfl) (mc := 0) (ms := 0) (MC := 600000) (MS := 7302249) rfl rfl rfl rfl (by omega) (by omega) dL_law_880 (st2 := [.long v548, .long v536]) rfl (fun H locs M hS => ?_)
        refine W.lcmp X.1 X.2.1 dL_law_883 ?_
        refine lv_if_eq (tgt := 945) X.1 X.2.1 dL_law_884 (by decide) (fun c554 => ?_) (fun c554 => ?_)
        · rw [if_pos c554] at hf
          exact (b_L_law_945 (nn := n) hX hbl hbA X ih) (some a539) (some a551) x3 w549 _ _ _ _ _ hf M hS (by omega) (by omega) (lv_sub hl [0, 1, 2, 3] rfl)
        · rw [if_neg c554] at hf
          refine lv_iconst (v := 0) X.1 X.2.1 dL_law_887 (by decide) ?_
          cases hf
      rw [if_neg c529] at hf
      by_cases c555 : (v12 &&& 31) = 21
      · rw [if_pos c555] at hf
        refine lv_tableIn (tgt := 889) (off := 836) X.1 X.2.1 dL_law_53 (by rw [c555]; decide) (by rw [c555]; decide) (by rw [c555]; rfl) (by decide) ?_
        refine q_aload_n X dL_law_889 rfl (lv_at hl 1 rfl) ?_
        refine q_aload_n X dL_law_890 rfl (lv_at hl 0 rfl) ?_
        refine lv_iload_n X.1 X.2.1 dL_law_891 rfl (lv_at hl 3 rfl) ?_
        refine lv_iconst (v := 1) X.1 X.2.1 dL_law_892 (by decide) ?_
        refine lv_iadd X.1 X.2.1 dL_law_893 ?_
        have ho := rdS_e hf
        clear hf
        obtain ⟨v556, i557, q558, hf⟩ := ho
        refine va_sld X.1 X.2.1 hX hbl hbA hS i557 dL_law_894 ?_
        rw [q558]
        refine q_aload_n X dL_law_895 rfl (lv_at hl 0 rfl) ?_
        refine lv_iload_n X.1 X.2.1 dL_law_896 rfl (lv_at hl 3 rfl) ?_
        refine lv_iconst (v := 2) X.1 X.2.1 dL_law_897 (by decide) ?_
        refine lv_iadd X.1 X.2.1 dL_law_898 ?_
        have ho := rdS_e hf
        clear hf
        obtain ⟨v559, i560, q561, hf⟩ := ho
        refine va_sld X.1 X.2.1 hX hbl hbA hS i560 dL_law_899 ?_
        rw [q561]
        have ho := chk_e hf
        clear hf
        obtain ⟨a565, e566, k567, hf⟩ := ho
        cases e566
        have ho := bnd_e hf
        clear hf
        obtain ⟨v562, w563, q564, hf⟩ := ho
        refine q_cV X M hS hl.1 (ci := 5) (r := (RX5, TX5, 9)) (As := [.int v556, .int v559]) (m_X5_letter a565 v556 v559 _ _ q564) mlL_113 gm_649 gm_650 rfl (by decide) k567 rfl ⟨(Nat.le_of_ble_eq_true rfl), (Nat.le_of_ble_eq_true rfl)⟩ (rest := []) rfl (Nat.le_of_ble_eq_true rfl) (mc := 0) (ms := 0) (MC := 600000) (MS := 7302249) rfl rfl rfl rfl (by omega) (by omega) dL_law_900 (st2 := [.int v562]) rfl (fun H locs M hS => ?_)
        refine q_aload_n X dL_law_903 rfl (lv_at hl 2 rfl) ?_
        refine q_aload_n X dL_law_904 rfl (lv_at hl 0 rfl) ?_
        refine lv_iload_n X.1 X.2.1 dL_law_905 rfl (lv_at hl 3 rfl) ?_
        refine lv_iconst (v := 1) X.1 X.2.1 dL_law_906 (by decide) ?_
        refine lv_iadd X.1 X.2.1 dL_law_907 ?_
        have ho := rdS_e hf
        clear hf
        obtain ⟨v568, i569, q570, hf⟩ := ho
        refine va_sld X.1 X.2.1 hX hbl hbA hS i569 dL_law_908 ?_
        rw [q570]
        refine q_aload_n X dL_law_909 rfl (lv_at hl 0 rfl) ?_
        refine lv_iload_n X.1 X.2.1 dL_law_910 rfl (lv_at hl 3 rfl) ?_
        refine lv_iconst (v := 2) X.1 X.2.1 dL_law_911 (by decide) ?_
        refine lv_iadd X.1 X.2.1 dL_law_912 ?_
        have ho := rdS_e hf
        clear hf
        obtain ⟨v571, i572, q573, hf⟩ := ho
        refine va_sld X.1 X.2.1 hX hbl hbA hS i572 dL_law_913 ?_
        rw [q573]
        have ho := chk_e hf
        clear hf
        obtain ⟨a577, e578, k579, hf⟩ := ho
        cases e578
        have ho := bnd_e hf
        clear hf
        obtain ⟨v574, w575, q576, hf⟩ := ho
        refine q_cV X M hS hl.1 (ci := 6) (r := (RX6, TX6, 53)) (As := [.int v568, .int v571]) (m_X6_letter_ a577 v568 v571 _ _ q576) mlL_116 gm_677 gm_678 rfl (by decide) k579 rfl ⟨(Nat.le_of_ble_eq_true rfl), (Nat.le_of_ble_eq_true rfl)⟩ (rest := [.int v562]) rfl (Nat.le_of_ble_eq_true rfl) (mc := 0) (ms := 0) (MC := 600000) (MS := 7302249) rfl rfl rfl rfl (by omega) (by omega) dL_law_914 (st2 := [.int v574, .int v562]) rfl (fun H locs M hS => ?_)
        refine lv_icmp_eq (tgt := 945) X.1 X.2.1 dL_law_917 (by decide) (fun c580 => ?_) (fun c580 => ?_)
        · rw [if_pos c580] at hf
          exact (b_L_law_945 (nn := n) hX hbl hbA X ih) (some a565) (some a577) x3 w575 _ _ _ _ _ hf M hS (by omega) (by omega) (lv_sub hl [0, 1, 2, 3] rfl)
        · rw [if_neg c580] at hf
          refine lv_iconst (v := 0) X.1 X.2.1 dL_law_920 (by decide) ?_
          cases hf
      rw [if_neg c555] at hf
      by_cases c581 : (v12 &&& 31) = 22
      · rw [if_pos c581] at hf
        refine lv_tableIn (tgt := 922) (off := 869) X.1 X.2.1 dL_law_53 (by rw [c581]; decide) (by rw [c581]; decide) (by rw [c581]; rfl) (by decide) ?_
        refine q_aload_n X dL_law_922 rfl (lv_at hl 1 rfl) ?_
        refine q_aload_n X dL_law_923 rfl (lv_at hl 0 rfl) ?_
        refine lv_iload_n X.1 X.2.1 dL_law_924 rfl (lv_at hl 3 rfl) ?_
        refine lv_iconst (v := 1) X.1 X.2.1 dL_law_925 (by decide) ?_
        refine lv_iadd X.1 X.2.1 dL_law_926 ?_
        have ho := rdS_e hf
        clear hf
        obtain ⟨v582, i583, q584, hf⟩ := ho
        refine va_sld X.1 X.2.1 hX hbl hbA hS i583 dL_law_927 ?_
        rw [q584]
        have ho := chk_e hf
        clear hf
        obtain ⟨a588, e589, k590, hf⟩ := ho
        cases e589
        have ho := bnd_e hf
        clear hf
        obtain ⟨v585, w586, q587, hf⟩ := ho
        refine q_cV X M hS hl.1 (ci := 5) (r := (RX5, TX5, 9)) (As := [.int v582]) (m_X5_count a588 v582 _ _ q587) mlL_117 gm_681 gm_682 rfl (by decide) k590 rfl ⟨(Nat.le_of_ble_eq_true rfl), (Nat.le_of_ble_eq_true rfl)⟩ (rest := []) rfl (Nat.le_of_ble_eq_true rfl) (mc := 0) (ms := 0) (MC := 600000) (MS := 7302249) rfl rfl rfl rfl (by omega) (by omega) dL_law_928 (st2 := [.int v585]) rfl (fun H locs M hS => ?_)
        refine q_aload_n X dL_law_931 rfl (lv_at hl 2 rfl) ?_
        refine q_aload_n X dL_law_932 rfl (lv_at hl 0 rfl) ?_
        refine lv_iload_n X.1 X.2.1 dL_law_933 rfl (lv_at hl 3 rfl) ?_
        refine lv_iconst (v := 1) X.1 X.2.1 dL_law_934 (by decide) ?_
        refine lv_iadd X.1 X.2.1 dL_law_935 ?_
        have ho := rdS_e hf
        clear hf
        obtain ⟨v591, i592, q593, hf⟩ := ho
        refine va_sld X.1 X.2.1 hX hbl hbA hS i592 dL_law_936 ?_
        rw [q593]
        have ho := chk_e hf
        clear hf
        obtain ⟨a597, e598, k599, hf⟩ := ho
        cases e598
        have ho := bnd_e hf
        clear hf
        obtain ⟨v594, w595, q596, hf⟩ := ho
        refine q_cV X M hS hl.1 (ci := 6) (r := (RX6, TX6, 53)) (As := [.int v591]) (m_X6_count a597 v591 _ _ q596) mlL_120 gm_685 gm_686 rfl (by decide) k599 rfl ⟨(Nat.le_of_ble_eq_true rfl), (Nat.le_of_ble_eq_true rfl)⟩ (rest := [.int v585]) rfl (Nat.le_of_ble_eq_true rfl) (mc := 0) (ms := 0) (MC := 600000) (MS := 7302249) rfl rfl rfl rfl (by omega) (by omega) dL_law_937 (st2 := [.int v594, .int v585]) rfl (fun H locs M hS => ?_)
        refine lv_icmp_eq (tgt := 945) X.1 X.2.1 dL_law_940 (by decide) (fun c600 => ?_) (fun c600 => ?_)
        · rw [if_pos c600] at hf
          exact (b_L_law_945 (nn := n) hX hbl hbA X ih) (some a588) (some a597) x3 w595 _ _ _ _ _ hf M hS (by omega) (by omega) (lv_sub hl [0, 1, 2, 3] rfl)
        · rw [if_neg c600] at hf
          refine lv_iconst (v := 0) X.1 X.2.1 dL_law_943 (by decide) ?_
          cases hf
      rw [if_neg c581] at hf
      have ht53 : (v12 &&& 31).toInt < 0 ∨ 22 < (v12 &&& 31).toInt := by
        have g0 : (v12 &&& 31).toInt ≠ 0 := by simpa using ne_i c15
        have g1 : (v12 &&& 31).toInt ≠ 1 := by simpa using ne_i c35
        have g2 : (v12 &&& 31).toInt ≠ 2 := by simpa using ne_i c55
        have g3 : (v12 &&& 31).toInt ≠ 3 := by simpa using ne_i c111
        have g4 : (v12 &&& 31).toInt ≠ 4 := by simpa using ne_i c137
        have g5 : (v12 &&& 31).toInt ≠ 5 := by simpa using ne_i c163
        have g6 : (v12 &&& 31).toInt ≠ 6 := by simpa using ne_i c183
        have g7 : (v12 &&& 31).toInt ≠ 7 := by simpa using ne_i c203
        have g8 : (v12 &&& 31).toInt ≠ 8 := by simpa using ne_i c223
        have g9 : (v12 &&& 31).toInt ≠ 9 := by simpa using ne_i c243
        have g10 : (v12 &&& 31).toInt ≠ 10 := by simpa using ne_i c263
        have g11 : (v12 &&& 31).toInt ≠ 11 := by simpa using ne_i c283
        have g12 : (v12 &&& 31).toInt ≠ 12 := by simpa using ne_i c315
        have g13 : (v12 &&& 31).toInt ≠ 13 := by simpa using ne_i c335
        have g14 : (v12 &&& 31).toInt ≠ 14 := by simpa using ne_i c355
        have g15 : (v12 &&& 31).toInt ≠ 15 := by simpa using ne_i c381
        have g16 : (v12 &&& 31).toInt ≠ 16 := by simpa using ne_i c413
        have g17 : (v12 &&& 31).toInt ≠ 17 := by simpa using ne_i c439
        have g18 : (v12 &&& 31).toInt ≠ 18 := by simpa using ne_i c477
        have g19 : (v12 &&& 31).toInt ≠ 19 := by simpa using ne_i c503
        have g20 : (v12 &&& 31).toInt ≠ 20 := by simpa using ne_i c529
        have g21 : (v12 &&& 31).toInt ≠ 21 := by simpa using ne_i c555
        have g22 : (v12 &&& 31).toInt ≠ 22 := by simpa using ne_i c581
        omega
      refine lv_tableOut (tgt := 945) X.1 X.2.1 dL_law_53 ht53 (by decide) ?_
      exact (b_L_law_945 (nn := n) hX hbl hbA X ih) x1 x2 x3 w _ _ _ _ _ hf M hS (by omega) (by omega) (lv_sub hl [0, 1, 2, 3] rfl)
def f_L_law (xs : Nat → Int32) (L : Nat) (w : Wd) : Option (Unit × Wd) := nwO w 6 (fun w1 => bnd (f_X5_init (wn w) (cellV xs L 0) (cellV xs L 1) w1) (fun v3 w4 => nwO w4 7 (fun w6 => bnd (f_X6_init (wn w4) (cellV xs L 0) (cellV xs L 1) w6) (fun v8 w9 => (f_L_law_38 xs L 514) (some (wn w)) (some (wn w4)) 2 w9))))
set_option maxHeartbeats 8000000 in
set_option maxRecDepth 100000 in
theorem e_L_law {l : Launch} {D : va_G} {aC : Nat → ClassId} {p : Program} {e : Env} {s : State} {m : MethodId} {below : List Frame} {meth : Method} {c : Code} {nm : String} {b L : Nat} {xs : Nat → Int32} (hX : va_X b L xs s s.heap) (hbl : b < s.heap.size) (hbA : ¬ (Fb s.heap.size) b) (X : Cx D aC p s m #[Value.ref b] meth c cL_law RL 4 nm (some .boolean)) {res : (Unit × Wd)} (w : Wd) : BW l D aC s.heap.size p e room_1 s m #[Value.ref b] below meth c (lw_Z below #[Value.ref b] s) res 600000 7302249 5477 435261 (f_L_law xs L w) w 0 4 [(0, va_rf (some b))] [] := by
  intro H locs cells slots ls hf M hS hc hs hl
  unfold f_L_law at hf
  have ho := nwO_e hf
  clear hf
  obtain ⟨w1, q2, hf⟩ := ho
  refine q_new X M hS clL_7 (MC := 600000) (MS := 7302249) rfl rfl (by omega) (by omega) dL_law_0 (fun H M hS => ?_)
  rw [q2] at M
  refine lv_dup X.1 X.2.1 dL_law_3 rfl ?_
  refine q_aload_n X dL_law_4 rfl (lv_at hl 0 rfl) ?_
  refine lv_iconst (v := 0) X.1 X.2.1 dL_law_5 (by decide) ?_
  refine q_cell X M hS hl.1 hX hbl (k := 0) (rest := [va_rf (some (wn w)), va_rf (some (wn w))]) (Nat.le_of_ble_eq_true rfl) (MC := 600000) (MS := 7302249) rfl rfl (by omega) (by omega) (by decide) dL_law_6 (fun H locs M hS => ?_)
  refine q_aload_n X dL_law_9 rfl (lv_at hl 0 rfl) ?_
  refine lv_iconst (v := 1) X.1 X.2.1 dL_law_10 (by decide) ?_
  refine q_cell X M hS hl.1 hX hbl (k := 1) (rest := [.int (cellV xs L 0), va_rf (some (wn w)), va_rf (some (wn w))]) (Nat.le_of_ble_eq_true rfl) (MC := 600000) (MS := 7302249) rfl rfl (by omega) (by omega) (by decide) dL_law_11 (fun H locs M hS => ?_)
  have ho := bnd_e hf
  clear hf
  obtain ⟨v3, w4, q5, hf⟩ := ho
  refine q_cI X M hS hl.1 (As := [.int (cellV xs L 0), .int (cellV xs L 1)]) (m_X5_init (wn w) (cellV xs L 0) (cellV xs L 1) _ _ q5) mlL_15 gm_12 rfl rfl ⟨(Nat.le_of_ble_eq_true rfl), (Nat.le_of_ble_eq_true rfl)⟩ (rest := [va_rf (some (wn w))]) rfl (Nat.le_of_ble_eq_true rfl) (mc := 805) (ms := 12649) (MC := 600000) (MS := 7302249) rfl rfl rfl rfl (by omega) (by omega) dL_law_14 (fun H locs M hS => ?_)
  refine q_astore_n (i := 1) (lv' := [(1, va_rf (some (wn w))), (0, va_rf (some b))]) X dL_law_17 rfl hl (by decide) rfl (fun ls hl => ?_)
  have ho := nwO_e hf
  clear hf
  obtain ⟨w6, q7, hf⟩ := ho
  refine q_new X M hS clL_18 (MC := 600000) (MS := 7302249) rfl rfl (by omega) (by omega) dL_law_18 (fun H M hS => ?_)
  rw [q7] at M
  refine lv_dup X.1 X.2.1 dL_law_21 rfl ?_
  refine q_aload_n X dL_law_22 rfl (lv_at hl 1 rfl) ?_
  refine lv_iconst (v := 0) X.1 X.2.1 dL_law_23 (by decide) ?_
  refine q_cell X M hS hl.1 hX hbl (k := 0) (rest := [va_rf (some (wn w4)), va_rf (some (wn w4))]) (Nat.le_of_ble_eq_true rfl) (MC := 600000) (MS := 7302249) rfl rfl (by omega) (by omega) (by decide) dL_law_24 (fun H locs M hS => ?_)
  refine q_aload_n X dL_law_27 rfl (lv_at hl 1 rfl) ?_
  refine lv_iconst (v := 1) X.1 X.2.1 dL_law_28 (by decide) ?_
  refine q_cell X M hS hl.1 hX hbl (k := 1) (rest := [.int (cellV xs L 0), va_rf (some (wn w4)), va_rf (some (wn w4))]) (Nat.le_of_ble_eq_true rfl) (MC := 600000) (MS := 7302249) rfl rfl (by omega) (by omega) (by decide) dL_law_29 (fun H locs M hS => ?_)
  have ho := bnd_e hf
  clear hf
  obtain ⟨v8, w9, q10, hf⟩ := ho
  refine q_cI X M hS hl.1 (As := [.int (cellV xs L 0), .int (cellV xs L 1)]) (m_X6_init (wn w4) (cellV xs L 0) (cellV xs L 1) _ _ q10) mlL_20 gm_97 rfl rfl ⟨(Nat.le_of_ble_eq_true rfl), (Nat.le_of_ble_eq_true rfl)⟩ (rest := [va_rf (some (wn w4))]) rfl (Nat.le_of_ble_eq_true rfl) (mc := 44) (ms := 376290) (MC := 600000) (MS := 7302249) rfl rfl rfl rfl (by omega) (by omega) dL_law_32 (fun H locs M hS => ?_)
  refine q_astore_n (i := 2) (lv' := [(2, va_rf (some (wn w4))), (1, va_rf (some (wn w))), (0, va_rf (some b))]) X dL_law_35 rfl hl (by decide) rfl (fun ls hl => ?_)
  refine lv_iconst (v := 2) X.1 X.2.1 dL_law_36 (by decide) ?_
  refine lv_istore_n (i := 3) (lv' := [(3, .int 2), (2, va_rf (some (wn w4))), (1, va_rf (some (wn w))), (0, va_rf (some b))]) X.1 X.2.1 dL_law_37 rfl hl (by decide) rfl (fun ls hl => ?_)
  exact (b_L_law_38 hX hbl hbA X 514) (some (wn w)) (some (wn w4)) 2 w9 _ _ _ _ _ hf M hS (by omega) (by omega) (lv_sub hl [3, 2, 1, 0] rfl)
