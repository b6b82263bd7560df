/-! THE CLAIM OUT OF ONE WALK OF THE LAW'S BODY. Your part is whole_start (and what it stands on); all else here is the same for every law, but numbers. -/
def R_law : String := "OnceCallsLaw"
def lw_P (b : Addr) (xs : List Int32) (args : Array Value) (s : State) : Prop := args = #[.ref b] ∧ s.IntsAt b xs ∧ xs.length ≤ 4098 ∧ (Jvm.Cond.and given_1 narrow_1).before args s = true
def lw_Q (_ : Array Value) (s : State) (o : Outcome) (t : State) : Prop := o = .returned (some (.int 1)) ∧ Framed s o t [] 600000 7302249
def lw_Z (below : List Frame) (a : Array Value) (s : State) : State → Prop := fun t => ∃ o, t.status = .running ∧ Ended t below o ∧ lw_Q a s o t
/-- the law's own end, with 1 on the stack, nothing written that was there before, its room as the claim has it -/
theorem lw_ret {p : Program} {l : Launch} {e : Env} {s : State} {m : MethodId} {below : List Frame} {meth : Method} {c : Code} {b : Nat} (hx : p.tables.exec = Jvm.exec) (hb : c.code = code) (hr : meth.sig.returnType = ret) (hlocks : meth.locks = false) {pc : Nat} {H : Heap} {ls : Array Slot} (hdg : decode code pc = .ok (.ireturn, 1)) : W p l e room_1 s m #[Value.ref b] below meth c H [] 600000 7302249 (lw_Z below #[Value.ref b] s) (F0 m pc ls [.int 1]) := by
  intro T hT X
  obtain ⟨fs, hret, hrun, hended, hW, hframe⟩ := X.leave (v := some (.int 1)) (hlocks := hlocks) (fun h => by rw [hr] at h; cases h)
  have hmeth' : T.vm.method? m = some meth := X.method'
  refine ⟨T.setFrames fs, ?_, .returned (some (.int 1)), hrun, hended, rfl, ⟨_, rfl⟩, hW, hframe⟩
  jvm_step X.here [X.here.top, hx, hb, hdg, hmeth', hr, ret, narrow_b1]
  (try refine ⟨rfl, ?_⟩); (try refine ⟨rfl, ?_⟩)
  first | (intro acts; rw [hret _ acts rfl rfl rfl]) | rw [hret _ _ rfl rfl rfl]
  exact Steps.refl _
/-- what holds at the law's entry: the machine, the code, the tables' words (any of lw_tbl by 'hts w (by decide +kernel)'), the script of L ints xs at the cell b, what the Statement gives of the start (any of its parts by flat_of_before) -/
def lw_At (p : Program) (s : State) (m : MethodId) (meth : Method) (c : Code) (b L : Nat) (xs : Nat → Int32) : Prop :=
  p.tables.exec = Jvm.exec ∧ c.code = code ∧ meth.sig.returnType = ret ∧ c.maxLocals = 4 ∧ s.vm.findClass R_law = some m.cls ∧ (∀ w ∈ lw_tbl, w.before #[Value.ref b] s = true) ∧ va_X b L xs s s.heap ∧ b < s.heap.size ∧ meth.locks = false ∧ (Jvm.Cond.and given_1 narrow_1).before #[Value.ref b] s = true

theorem clL_7 : CL RL 7 5 9 := ⟨RX5, TX5, tyX5, rfl, inlX5, tyX5_ok, sub_r1 _ (List.mem_of_getElem? (i := 0) rfl), sub_r1 _ (List.mem_of_getElem? (i := 1) rfl), sub_r1 _ (List.mem_of_getElem? (i := 2) rfl), by decide +kernel, by decide⟩
theorem mlL_15 : ML RL 15 yX5_init cX5_init 5 none 2 := ⟨sub_r1 _ (List.mem_of_getElem? (i := 11) rfl), sub_r1 _ (List.mem_of_getElem? (i := 13) rfl), sub_r1 _ (List.mem_of_getElem? (i := 2) rfl), by decide +kernel⟩
theorem gm_12 : Cond.instanceMethod yX5_init ∈ Gw := sub_r1 _ (List.mem_of_getElem? (i := 12) rfl)
theorem clL_18 : CL RL 18 6 53 := ⟨RX6, TX6, tyX6, rfl, inlX6, tyX6_ok, sub_r1 _ (List.mem_of_getElem? (i := 3) rfl), sub_r1 _ (List.mem_of_getElem? (i := 4) rfl), sub_r1 _ (List.mem_of_getElem? (i := 5) rfl), by decide +kernel, by decide⟩
theorem mlL_20 : ML RL 20 yX6_init cX6_init 6 none 2 := ⟨sub_r5 _ (List.mem_of_getElem? (i := 0) rfl), sub_r5 _ (List.mem_of_getElem? (i := 2) rfl), sub_r1 _ (List.mem_of_getElem? (i := 5) rfl), by decide +kernel⟩
theorem gm_97 : Cond.instanceMethod yX6_init ∈ Gw := sub_r5 _ (List.mem_of_getElem? (i := 1) rfl)
theorem mlL_21 : ML RL 21 yX5_open cX5_open 3 (some .int) 1 := ⟨sub_r7 _ (List.mem_of_getElem? (i := 4) rfl), sub_r7 _ (List.mem_of_getElem? (i := 7) rfl), sub_r1 _ (List.mem_of_getElem? (i := 2) rfl), by decide +kernel⟩
theorem gm_149 : Cond.instanceMethod yX5_open ∈ Gw := sub_r7 _ (List.mem_of_getElem? (i := 5) rfl)
theorem gm_150 : Cond.selects RX5 yX5_open yX5_open ∈ Gw := sub_r7 _ (List.mem_of_getElem? (i := 6) rfl)
theorem mlL_25 : ML RL 25 yX6_open cX6_open 2 (some .int) 1 := ⟨sub_r7 _ (List.mem_of_getElem? (i := 17) rfl), sub_r7 _ (List.mem_of_getElem? (i := 20) rfl), sub_r1 _ (List.mem_of_getElem? (i := 5) rfl), by decide +kernel⟩
theorem gm_162 : Cond.instanceMethod yX6_open ∈ Gw := sub_r7 _ (List.mem_of_getElem? (i := 18) rfl)
theorem gm_163 : Cond.selects RX6 yX6_open yX6_open ∈ Gw := sub_r7 _ (List.mem_of_getElem? (i := 19) rfl)
theorem mlL_26 : ML RL 26 yX5_renew cX5_renew 3 (some .int) 1 := ⟨sub_r8 _ (List.mem_of_getElem? (i := 5) rfl), sub_r8 _ (List.mem_of_getElem? (i := 8) rfl), sub_r1 _ (List.mem_of_getElem? (i := 2) rfl), by decide +kernel⟩
theorem gm_174 : Cond.instanceMethod yX5_renew ∈ Gw := sub_r8 _ (List.mem_of_getElem? (i := 6) rfl)
theorem gm_175 : Cond.selects RX5 yX5_renew yX5_renew ∈ Gw := sub_r8 _ (List.mem_of_getElem? (i := 7) rfl)
theorem mlL_29 : ML RL 29 yX6_renew cX6_renew 2 (some .int) 1 := ⟨sub_r8 _ (List.mem_of_getElem? (i := 13) rfl), sub_r8 _ (List.mem_of_getElem? (i := 16) rfl), sub_r1 _ (List.mem_of_getElem? (i := 5) rfl), by decide +kernel⟩
theorem gm_182 : Cond.instanceMethod yX6_renew ∈ Gw := sub_r8 _ (List.mem_of_getElem? (i := 14) rfl)
theorem gm_183 : Cond.selects RX6 yX6_renew yX6_renew ∈ Gw := sub_r8 _ (List.mem_of_getElem? (i := 15) rfl)
theorem gm_6 : Cond.constantLong RL 30 (4294967295) ∈ Gw := sub_r1 _ (List.mem_of_getElem? (i := 6) rfl)
theorem mlL_32 : ML RL 32 yX5_call cX5_call 10 (some .int) 5 := ⟨sub_r8 _ (List.mem_of_getElem? (i := 21) rfl), sub_r9 _ (List.mem_of_getElem? (i := 0) rfl), sub_r1 _ (List.mem_of_getElem? (i := 2) rfl), by decide +kernel⟩
theorem gm_190 : Cond.instanceMethod yX5_call ∈ Gw := sub_r8 _ (List.mem_of_getElem? (i := 22) rfl)
theorem gm_191 : Cond.selects RX5 yX5_call yX5_call ∈ Gw := sub_r8 _ (List.mem_of_getElem? (i := 23) rfl)
theorem mlL_36 : ML RL 36 yX6_call cX6_call 9 (some .int) 5 := ⟨sub_r11 _ (List.mem_of_getElem? (i := 5) rfl), sub_r11 _ (List.mem_of_getElem? (i := 8) rfl), sub_r1 _ (List.mem_of_getElem? (i := 5) rfl), by decide +kernel⟩
theorem gm_246 : Cond.instanceMethod yX6_call ∈ Gw := sub_r11 _ (List.mem_of_getElem? (i := 6) rfl)
theorem gm_247 : Cond.selects RX6 yX6_call yX6_call ∈ Gw := sub_r11 _ (List.mem_of_getElem? (i := 7) rfl)
theorem mlL_37 : ML RL 37 yX5_retry cX5_retry 4 (some .int) 2 := ⟨sub_r12 _ (List.mem_of_getElem? (i := 8) rfl), sub_r12 _ (List.mem_of_getElem? (i := 11) rfl), sub_r1 _ (List.mem_of_getElem? (i := 2) rfl), by decide +kernel⟩
theorem gm_273 : Cond.instanceMethod yX5_retry ∈ Gw := sub_r12 _ (List.mem_of_getElem? (i := 9) rfl)
theorem gm_274 : Cond.selects RX5 yX5_retry yX5_retry ∈ Gw := sub_r12 _ (List.mem_of_getElem? (i := 10) rfl)
theorem mlL_41 : ML RL 41 yX6_retry cX6_retry 3 (some .int) 2 := ⟨sub_r12 _ (List.mem_of_getElem? (i := 17) rfl), sub_r12 _ (List.mem_of_getElem? (i := 20) rfl), sub_r1 _ (List.mem_of_getElem? (i := 5) rfl), by decide +kernel⟩
theorem gm_282 : Cond.instanceMethod yX6_retry ∈ Gw := sub_r12 _ (List.mem_of_getElem? (i := 18) rfl)
theorem gm_283 : Cond.selects RX6 yX6_retry yX6_retry ∈ Gw := sub_r12 _ (List.mem_of_getElem? (i := 19) rfl)
theorem mlL_42 : ML RL 42 yX5_ack cX5_ack 5 (some .int) 2 := ⟨sub_r13 _ (List.mem_of_getElem? (i := 1) rfl), sub_r13 _ (List.mem_of_getElem? (i := 4) rfl), sub_r1 _ (List.mem_of_getElem? (i := 2) rfl), by decide +kernel⟩
theorem gm_290 : Cond.instanceMethod yX5_ack ∈ Gw := sub_r13 _ (List.mem_of_getElem? (i := 2) rfl)
theorem gm_291 : Cond.selects RX5 yX5_ack yX5_ack ∈ Gw := sub_r13 _ (List.mem_of_getElem? (i := 3) rfl)
theorem mlL_45 : ML RL 45 yX6_ack cX6_ack 5 (some .int) 2 := ⟨sub_r13 _ (List.mem_of_getElem? (i := 9) rfl), sub_r13 _ (List.mem_of_getElem? (i := 12) rfl), sub_r1 _ (List.mem_of_getElem? (i := 5) rfl), by decide +kernel⟩
theorem gm_298 : Cond.instanceMethod yX6_ack ∈ Gw := sub_r13 _ (List.mem_of_getElem? (i := 10) rfl)
theorem gm_299 : Cond.selects RX6 yX6_ack yX6_ack ∈ Gw := sub_r13 _ (List.mem_of_getElem? (i := 11) rfl)
theorem mlL_46 : ML RL 46 yX5_deliver cX5_deliver 4 (some .int) 1 := ⟨sub_r13 _ (List.mem_of_getElem? (i := 17) rfl), sub_r13 _ (List.mem_of_getElem? (i := 20) rfl), sub_r1 _ (List.mem_of_getElem? (i := 2) rfl), by decide +kernel⟩
theorem gm_306 : Cond.instanceMethod yX5_deliver ∈ Gw := sub_r13 _ (List.mem_of_getElem? (i := 18) rfl)
theorem gm_307 : Cond.selects RX5 yX5_deliver yX5_deliver ∈ Gw := sub_r13 _ (List.mem_of_getElem? (i := 19) rfl)
theorem mlL_49 : ML RL 49 yX6_deliver cX6_deliver 5 (some .int) 1 := ⟨sub_r19 _ (List.mem_of_getElem? (i := 0) rfl), sub_r19 _ (List.mem_of_getElem? (i := 3) rfl), sub_r1 _ (List.mem_of_getElem? (i := 5) rfl), by decide +kernel⟩
theorem gm_433 : Cond.instanceMethod yX6_deliver ∈ Gw := sub_r19 _ (List.mem_of_getElem? (i := 1) rfl)
theorem gm_434 : Cond.selects RX6 yX6_deliver yX6_deliver ∈ Gw := sub_r19 _ (List.mem_of_getElem? (i := 2) rfl)
theorem mlL_50 : ML RL 50 yX5_drop cX5_drop 3 (some .int) 1 := ⟨sub_r20 _ (List.mem_of_getElem? (i := 22) rfl), sub_r21 _ (List.mem_of_getElem? (i := 1) rfl), sub_r1 _ (List.mem_of_getElem? (i := 2) rfl), by decide +kernel⟩
theorem gm_479 : Cond.instanceMethod yX5_drop ∈ Gw := sub_r20 _ (List.mem_of_getElem? (i := 23) rfl)
theorem gm_480 : Cond.selects RX5 yX5_drop yX5_drop ∈ Gw := sub_r21 _ (List.mem_of_getElem? (i := 0) rfl)
theorem mlL_53 : ML RL 53 yX6_drop cX6_drop 3 (some .int) 1 := ⟨sub_r21 _ (List.mem_of_getElem? (i := 2) rfl), sub_r21 _ (List.mem_of_getElem? (i := 5) rfl), sub_r1 _ (List.mem_of_getElem? (i := 5) rfl), by decide +kernel⟩
theorem gm_483 : Cond.instanceMethod yX6_drop ∈ Gw := sub_r21 _ (List.mem_of_getElem? (i := 3) rfl)
theorem gm_484 : Cond.selects RX6 yX6_drop yX6_drop ∈ Gw := sub_r21 _ (List.mem_of_getElem? (i := 4) rfl)
theorem mlL_54 : ML RL 54 yX5_twin cX5_twin 3 (some .int) 1 := ⟨sub_r21 _ (List.mem_of_getElem? (i := 6) rfl), sub_r21 _ (List.mem_of_getElem? (i := 9) rfl), sub_r1 _ (List.mem_of_getElem? (i := 2) rfl), by decide +kernel⟩
theorem gm_487 : Cond.instanceMethod yX5_twin ∈ Gw := sub_r21 _ (List.mem_of_getElem? (i := 7) rfl)
theorem gm_488 : Cond.selects RX5 yX5_twin yX5_twin ∈ Gw := sub_r21 _ (List.mem_of_getElem? (i := 8) rfl)
theorem mlL_57 : ML RL 57 yX6_twin cX6_twin 5 (some .int) 1 := ⟨sub_r21 _ (List.mem_of_getElem? (i := 10) rfl), sub_r21 _ (List.mem_of_getElem? (i := 13) rfl), sub_r1 _ (List.mem_of_getElem? (i := 5) rfl), by decide +kernel⟩
theorem gm_491 : Cond.instanceMethod yX6_twin ∈ Gw := sub_r21 _ (List.mem_of_getElem? (i := 11) rfl)
theorem gm_492 : Cond.selects RX6 yX6_twin yX6_twin ∈ Gw := sub_r21 _ (List.mem_of_getElem? (i := 12) rfl)
theorem mlL_58 : ML RL 58 yX5_sync cX5_sync 5 (some .int) 1 := ⟨sub_r21 _ (List.mem_of_getElem? (i := 14) rfl), sub_r21 _ (List.mem_of_getElem? (i := 17) rfl), sub_r1 _ (List.mem_of_getElem? (i := 2) rfl), by decide +kernel⟩
theorem gm_495 : Cond.instanceMethod yX5_sync ∈ Gw := sub_r21 _ (List.mem_of_getElem? (i := 15) rfl)
theorem gm_496 : Cond.selects RX5 yX5_sync yX5_sync ∈ Gw := sub_r21 _ (List.mem_of_getElem? (i := 16) rfl)
theorem mlL_61 : ML RL 61 yX6_sync cX6_sync 4 (some .int) 1 := ⟨sub_r22 _ (List.mem_of_getElem? (i := 3) rfl), sub_r22 _ (List.mem_of_getElem? (i := 6) rfl), sub_r1 _ (List.mem_of_getElem? (i := 5) rfl), by decide +kernel⟩
theorem gm_508 : Cond.instanceMethod yX6_sync ∈ Gw := sub_r22 _ (List.mem_of_getElem? (i := 4) rfl)
theorem gm_509 : Cond.selects RX6 yX6_sync yX6_sync ∈ Gw := sub_r22 _ (List.mem_of_getElem? (i := 5) rfl)
theorem mlL_62 : ML RL 62 yX5_crash cX5_crash 4 (some .int) 1 := ⟨sub_r22 _ (List.mem_of_getElem? (i := 11) rfl), sub_r22 _ (List.mem_of_getElem? (i := 14) rfl), sub_r1 _ (List.mem_of_getElem? (i := 2) rfl), by decide +kernel⟩
theorem gm_516 : Cond.instanceMethod yX5_crash ∈ Gw := sub_r22 _ (List.mem_of_getElem? (i := 12) rfl)
theorem gm_517 : Cond.selects RX5 yX5_crash yX5_crash ∈ Gw := sub_r22 _ (List.mem_of_getElem? (i := 13) rfl)
theorem mlL_65 : ML RL 65 yX6_crash cX6_crash 4 (some .int) 1 := ⟨sub_r22 _ (List.mem_of_getElem? (i := 19) rfl), sub_r22 _ (List.mem_of_getElem? (i := 22) rfl), sub_r1 _ (List.mem_of_getElem? (i := 5) rfl), by decide +kernel⟩
theorem gm_524 : Cond.instanceMethod yX6_crash ∈ Gw := sub_r22 _ (List.mem_of_getElem? (i := 20) rfl)
theorem gm_525 : Cond.selects RX6 yX6_crash yX6_crash ∈ Gw := sub_r22 _ (List.mem_of_getElem? (i := 21) rfl)
theorem mlL_66 : ML RL 66 yX5_start cX5_start 3 (some .int) 1 := ⟨sub_r22 _ (List.mem_of_getElem? (i := 23) rfl), sub_r23 _ (List.mem_of_getElem? (i := 2) rfl), sub_r1 _ (List.mem_of_getElem? (i := 2) rfl), by decide +kernel⟩
theorem gm_528 : Cond.instanceMethod yX5_start ∈ Gw := sub_r23 _ (List.mem_of_getElem? (i := 0) rfl)
theorem gm_529 : Cond.selects RX5 yX5_start yX5_start ∈ Gw := sub_r23 _ (List.mem_of_getElem? (i := 1) rfl)
theorem mlL_69 : ML RL 69 yX6_start cX6_start 2 (some .int) 1 := ⟨sub_r23 _ (List.mem_of_getElem? (i := 3) rfl), sub_r23 _ (List.mem_of_getElem? (i := 6) rfl), sub_r1 _ (List.mem_of_getElem? (i := 5) rfl), by decide +kernel⟩
theorem gm_532 : Cond.instanceMethod yX6_start ∈ Gw := sub_r23 _ (List.mem_of_getElem? (i := 4) rfl)
theorem gm_533 : Cond.selects RX6 yX6_start yX6_start ∈ Gw := sub_r23 _ (List.mem_of_getElem? (i := 5) rfl)
theorem mlL_70 : ML RL 70 yX5_move cX5_move 7 (some .int) 3 := ⟨sub_r23 _ (List.mem_of_getElem? (i := 7) rfl), sub_r23 _ (List.mem_of_getElem? (i := 10) rfl), sub_r1 _ (List.mem_of_getElem? (i := 2) rfl), by decide +kernel⟩
theorem gm_536 : Cond.instanceMethod yX5_move ∈ Gw := sub_r23 _ (List.mem_of_getElem? (i := 8) rfl)
theorem gm_537 : Cond.selects RX5 yX5_move yX5_move ∈ Gw := sub_r23 _ (List.mem_of_getElem? (i := 9) rfl)
theorem mlL_74 : ML RL 74 yX6_move cX6_move 7 (some .int) 3 := ⟨sub_r23 _ (List.mem_of_getElem? (i := 16) rfl), sub_r23 _ (List.mem_of_getElem? (i := 19) rfl), sub_r1 _ (List.mem_of_getElem? (i := 5) rfl), by decide +kernel⟩
theorem gm_545 : Cond.instanceMethod yX6_move ∈ Gw := sub_r23 _ (List.mem_of_getElem? (i := 17) rfl)
theorem gm_546 : Cond.selects RX6 yX6_move yX6_move ∈ Gw := sub_r23 _ (List.mem_of_getElem? (i := 18) rfl)
theorem mlL_75 : ML RL 75 yX5_collect cX5_collect 6 (some .int) 1 := ⟨sub_r23 _ (List.mem_of_getElem? (i := 20) rfl), sub_r23 _ (List.mem_of_getElem? (i := 23) rfl), sub_r1 _ (List.mem_of_getElem? (i := 2) rfl), by decide +kernel⟩
theorem gm_549 : Cond.instanceMethod yX5_collect ∈ Gw := sub_r23 _ (List.mem_of_getElem? (i := 21) rfl)
theorem gm_550 : Cond.selects RX5 yX5_collect yX5_collect ∈ Gw := sub_r23 _ (List.mem_of_getElem? (i := 22) rfl)
theorem mlL_78 : ML RL 78 yX6_collect cX6_collect 6 (some .int) 1 := ⟨sub_r24 _ (List.mem_of_getElem? (i := 7) rfl), sub_r24 _ (List.mem_of_getElem? (i := 10) rfl), sub_r1 _ (List.mem_of_getElem? (i := 5) rfl), by decide +kernel⟩
theorem gm_560 : Cond.instanceMethod yX6_collect ∈ Gw := sub_r24 _ (List.mem_of_getElem? (i := 8) rfl)
theorem gm_561 : Cond.selects RX6 yX6_collect yX6_collect ∈ Gw := sub_r24 _ (List.mem_of_getElem? (i := 9) rfl)
theorem mlL_79 : ML RL 79 yX5_ticks cX5_ticks 2 (some .int) 1 := ⟨sub_r24 _ (List.mem_of_getElem? (i := 11) rfl), sub_r24 _ (List.mem_of_getElem? (i := 14) rfl), sub_r1 _ (List.mem_of_getElem? (i := 2) rfl), by decide +kernel⟩
theorem gm_564 : Cond.instanceMethod yX5_ticks ∈ Gw := sub_r24 _ (List.mem_of_getElem? (i := 12) rfl)
theorem gm_565 : Cond.selects RX5 yX5_ticks yX5_ticks ∈ Gw := sub_r24 _ (List.mem_of_getElem? (i := 13) rfl)
theorem mlL_82 : ML RL 82 yX6_ticks cX6_ticks 2 (some .int) 1 := ⟨sub_r24 _ (List.mem_of_getElem? (i := 15) rfl), sub_r24 _ (List.mem_of_getElem? (i := 18) rfl), sub_r1 _ (List.mem_of_getElem? (i := 5) rfl), by decide +kernel⟩
theorem gm_568 : Cond.instanceMethod yX6_ticks ∈ Gw := sub_r24 _ (List.mem_of_getElem? (i := 16) rfl)
theorem gm_569 : Cond.selects RX6 yX6_ticks yX6_ticks ∈ Gw := sub_r24 _ (List.mem_of_getElem? (i := 17) rfl)
theorem mlL_83 : ML RL 83 yX5_server cX5_server 4 (some .int) 2 := ⟨sub_r24 _ (List.mem_of_getElem? (i := 19) rfl), sub_r24 _ (List.mem_of_getElem? (i := 22) rfl), sub_r1 _ (List.mem_of_getElem? (i := 2) rfl), by decide +kernel⟩
theorem gm_572 : Cond.instanceMethod yX5_server ∈ Gw := sub_r24 _ (List.mem_of_getElem? (i := 20) rfl)
theorem gm_573 : Cond.selects RX5 yX5_server yX5_server ∈ Gw := sub_r24 _ (List.mem_of_getElem? (i := 21) rfl)
theorem mlL_86 : ML RL 86 yX6_server cX6_server 5 (some .int) 2 := ⟨sub_r25 _ (List.mem_of_getElem? (i := 7) rfl), sub_r25 _ (List.mem_of_getElem? (i := 10) rfl), sub_r1 _ (List.mem_of_getElem? (i := 5) rfl), by decide +kernel⟩
theorem gm_584 : Cond.instanceMethod yX6_server ∈ Gw := sub_r25 _ (List.mem_of_getElem? (i := 8) rfl)
theorem gm_585 : Cond.selects RX6 yX6_server yX6_server ∈ Gw := sub_r25 _ (List.mem_of_getElem? (i := 9) rfl)
theorem mlL_87 : ML RL 87 yX5_bucket cX5_bucket 5 (some .int) 3 := ⟨sub_r25 _ (List.mem_of_getElem? (i := 11) rfl), sub_r25 _ (List.mem_of_getElem? (i := 14) rfl), sub_r1 _ (List.mem_of_getElem? (i := 2) rfl), by decide +kernel⟩
theorem gm_588 : Cond.instanceMethod yX5_bucket ∈ Gw := sub_r25 _ (List.mem_of_getElem? (i := 12) rfl)
theorem gm_589 : Cond.selects RX5 yX5_bucket yX5_bucket ∈ Gw := sub_r25 _ (List.mem_of_getElem? (i := 13) rfl)
theorem mlL_90 : ML RL 90 yX6_bucket cX6_bucket 5 (some .int) 3 := ⟨sub_r25 _ (List.mem_of_getElem? (i := 21) rfl), sub_r26 _ (List.mem_of_getElem? (i := 0) rfl), sub_r1 _ (List.mem_of_getElem? (i := 5) rfl), by decide +kernel⟩
theorem gm_598 : Cond.instanceMethod yX6_bucket ∈ Gw := sub_r25 _ (List.mem_of_getElem? (i := 22) rfl)
theorem gm_599 : Cond.selects RX6 yX6_bucket yX6_bucket ∈ Gw := sub_r25 _ (List.mem_of_getElem? (i := 23) rfl)
theorem mlL_91 : ML RL 91 yX5_value cX5_value 4 (some .long) 2 := ⟨sub_r26 _ (List.mem_of_getElem? (i := 5) rfl), sub_r26 _ (List.mem_of_getElem? (i := 8) rfl), sub_r1 _ (List.mem_of_getElem? (i := 2) rfl), by decide +kernel⟩
theorem gm_606 : Cond.instanceMethod yX5_value ∈ Gw := sub_r26 _ (List.mem_of_getElem? (i := 6) rfl)
theorem gm_607 : Cond.selects RX5 yX5_value yX5_value ∈ Gw := sub_r26 _ (List.mem_of_getElem? (i := 7) rfl)
theorem mlL_95 : ML RL 95 yX6_value cX6_value 3 (some .long) 2 := ⟨sub_r26 _ (List.mem_of_getElem? (i := 11) rfl), sub_r26 _ (List.mem_of_getElem? (i := 14) rfl), sub_r1 _ (List.mem_of_getElem? (i := 5) rfl), by decide +kernel⟩
theorem gm_612 : Cond.instanceMethod yX6_value ∈ Gw := sub_r26 _ (List.mem_of_getElem? (i := 12) rfl)
theorem gm_613 : Cond.selects RX6 yX6_value yX6_value ∈ Gw := sub_r26 _ (List.mem_of_getElem? (i := 13) rfl)
theorem mlL_96 : ML RL 96 yX5_record cX5_record 6 (some .int) 4 := ⟨sub_r26 _ (List.mem_of_getElem? (i := 15) rfl), sub_r26 _ (List.mem_of_getElem? (i := 18) rfl), sub_r1 _ (List.mem_of_getElem? (i := 2) rfl), by decide +kernel⟩
theorem gm_616 : Cond.instanceMethod yX5_record ∈ Gw := sub_r26 _ (List.mem_of_getElem? (i := 16) rfl)
theorem gm_617 : Cond.selects RX5 yX5_record yX5_record ∈ Gw := sub_r26 _ (List.mem_of_getElem? (i := 17) rfl)
theorem mlL_100 : ML RL 100 yX6_record cX6_record 7 (some .int) 4 := ⟨sub_r26 _ (List.mem_of_getElem? (i := 20) rfl), sub_r26 _ (List.mem_of_getElem? (i := 23) rfl), sub_r1 _ (List.mem_of_getElem? (i := 5) rfl), by decide +kernel⟩
theorem gm_621 : Cond.instanceMethod yX6_record ∈ Gw := sub_r26 _ (List.mem_of_getElem? (i := 21) rfl)
theorem gm_622 : Cond.selects RX6 yX6_record yX6_record ∈ Gw := sub_r26 _ (List.mem_of_getElem? (i := 22) rfl)
theorem mlL_101 : ML RL 101 yX5_client cX5_client 4 (some .int) 2 := ⟨sub_r27 _ (List.mem_of_getElem? (i := 0) rfl), sub_r27 _ (List.mem_of_getElem? (i := 3) rfl), sub_r1 _ (List.mem_of_getElem? (i := 2) rfl), by decide +kernel⟩
theorem gm_625 : Cond.instanceMethod yX5_client ∈ Gw := sub_r27 _ (List.mem_of_getElem? (i := 1) rfl)
theorem gm_626 : Cond.selects RX5 yX5_client yX5_client ∈ Gw := sub_r27 _ (List.mem_of_getElem? (i := 2) rfl)
theorem mlL_104 : ML RL 104 yX6_client cX6_client 3 (some .int) 2 := ⟨sub_r27 _ (List.mem_of_getElem? (i := 4) rfl), sub_r27 _ (List.mem_of_getElem? (i := 7) rfl), sub_r1 _ (List.mem_of_getElem? (i := 5) rfl), by decide +kernel⟩
theorem gm_629 : Cond.instanceMethod yX6_client ∈ Gw := sub_r27 _ (List.mem_of_getElem? (i := 5) rfl)
theorem gm_630 : Cond.selects RX6 yX6_client yX6_client ∈ Gw := sub_r27 _ (List.mem_of_getElem? (i := 6) rfl)
theorem mlL_105 : ML RL 105 yX5_state cX5_state 4 (some .int) 2 := ⟨sub_r27 _ (List.mem_of_getElem? (i := 8) rfl), sub_r27 _ (List.mem_of_getElem? (i := 11) rfl), sub_r1 _ (List.mem_of_getElem? (i := 2) rfl), by decide +kernel⟩
theorem gm_633 : Cond.instanceMethod yX5_state ∈ Gw := sub_r27 _ (List.mem_of_getElem? (i := 9) rfl)
theorem gm_634 : Cond.selects RX5 yX5_state yX5_state ∈ Gw := sub_r27 _ (List.mem_of_getElem? (i := 10) rfl)
theorem mlL_108 : ML RL 108 yX6_state cX6_state 3 (some .int) 2 := ⟨sub_r27 _ (List.mem_of_getElem? (i := 12) rfl), sub_r27 _ (List.mem_of_getElem? (i := 15) rfl), sub_r1 _ (List.mem_of_getElem? (i := 5) rfl), by decide +kernel⟩
theorem gm_637 : Cond.instanceMethod yX6_state ∈ Gw := sub_r27 _ (List.mem_of_getElem? (i := 13) rfl)
theorem gm_638 : Cond.selects RX6 yX6_state yX6_state ∈ Gw := sub_r27 _ (List.mem_of_getElem? (i := 14) rfl)
theorem mlL_109 : ML RL 109 yX5_result cX5_result 4 (some .long) 2 := ⟨sub_r27 _ (List.mem_of_getElem? (i := 16) rfl), sub_r27 _ (List.mem_of_getElem? (i := 19) rfl), sub_r1 _ (List.mem_of_getElem? (i := 2) rfl), by decide +kernel⟩
theorem gm_641 : Cond.instanceMethod yX5_result ∈ Gw := sub_r27 _ (List.mem_of_getElem? (i := 17) rfl)
theorem gm_642 : Cond.selects RX5 yX5_result yX5_result ∈ Gw := sub_r27 _ (List.mem_of_getElem? (i := 18) rfl)
theorem mlL_112 : ML RL 112 yX6_result cX6_result 3 (some .long) 2 := ⟨sub_r27 _ (List.mem_of_getElem? (i := 20) rfl), sub_r27 _ (List.mem_of_getElem? (i := 23) rfl), sub_r1 _ (List.mem_of_getElem? (i := 5) rfl), by decide +kernel⟩
theorem gm_645 : Cond.instanceMethod yX6_result ∈ Gw := sub_r27 _ (List.mem_of_getElem? (i := 21) rfl)
theorem gm_646 : Cond.selects RX6 yX6_result yX6_result ∈ Gw := sub_r27 _ (List.mem_of_getElem? (i := 22) rfl)
theorem mlL_113 : ML RL 113 yX5_letter cX5_letter 4 (some .int) 2 := ⟨sub_r28 _ (List.mem_of_getElem? (i := 0) rfl), sub_r28 _ (List.mem_of_getElem? (i := 3) rfl), sub_r1 _ (List.mem_of_getElem? (i := 2) rfl), by decide +kernel⟩
theorem gm_649 : Cond.instanceMethod yX5_letter ∈ Gw := sub_r28 _ (List.mem_of_getElem? (i := 1) rfl)
theorem gm_650 : Cond.selects RX5 yX5_letter yX5_letter ∈ Gw := sub_r28 _ (List.mem_of_getElem? (i := 2) rfl)
theorem mlL_116 : ML RL 116 yX6_letter_ cX6_letter_ 5 (some .int) 2 := ⟨sub_r29 _ (List.mem_of_getElem? (i := 4) rfl), sub_r29 _ (List.mem_of_getElem? (i := 7) rfl), sub_r1 _ (List.mem_of_getElem? (i := 5) rfl), by decide +kernel⟩
theorem gm_677 : Cond.instanceMethod yX6_letter_ ∈ Gw := sub_r29 _ (List.mem_of_getElem? (i := 5) rfl)
theorem gm_678 : Cond.selects RX6 yX6_letter_ yX6_letter_ ∈ Gw := sub_r29 _ (List.mem_of_getElem? (i := 6) rfl)
theorem mlL_117 : ML RL 117 yX5_count cX5_count 2 (some .int) 1 := ⟨sub_r29 _ (List.mem_of_getElem? (i := 8) rfl), sub_r29 _ (List.mem_of_getElem? (i := 11) rfl), sub_r1 _ (List.mem_of_getElem? (i := 2) rfl), by decide +kernel⟩
theorem gm_681 : Cond.instanceMethod yX5_count ∈ Gw := sub_r29 _ (List.mem_of_getElem? (i := 9) rfl)
theorem gm_682 : Cond.selects RX5 yX5_count yX5_count ∈ Gw := sub_r29 _ (List.mem_of_getElem? (i := 10) rfl)
theorem mlL_120 : ML RL 120 yX6_count cX6_count 2 (some .int) 1 := ⟨sub_r29 _ (List.mem_of_getElem? (i := 12) rfl), sub_r29 _ (List.mem_of_getElem? (i := 15) rfl), sub_r1 _ (List.mem_of_getElem? (i := 5) rfl), by decide +kernel⟩
theorem gm_685 : Cond.instanceMethod yX6_count ∈ Gw := sub_r29 _ (List.mem_of_getElem? (i := 13) rfl)
theorem gm_686 : Cond.selects RX6 yX6_count yX6_count ∈ Gw := sub_r29 _ (List.mem_of_getElem? (i := 14) rfl)
def rdS {β : Type} (xs : Nat → Int32) (L : Nat) (i : Int32) (f : Int32 → Option β) : Option β := if i < 0 ∨ L ≤ i.toNatClampNeg then none else f (xs i.toNatClampNeg)
theorem rdS_e {β : Type} {xs : Nat → Int32} {L : Nat} {i : Int32} {f : Int32 → Option β} {x : β} (h : rdS xs L i f = some x) : ∃ v, vp_in i L ∧ xs i.toNatClampNeg = v ∧ f v = some x := by
  unfold rdS at h
  by_cases hv : i < 0 ∨ L ≤ i.toNatClampNeg
  · rw [if_pos hv] at h; cases h
  · rw [if_neg hv] at h; exact ⟨_, hv, rfl, h⟩
def cellV (xs : Nat → Int32) (L : Nat) (k : Int32) : Int32 := if Int32.ofNat L ≤ k then 0 else xs k.toNatClampNeg
/-- cell(script, k) -/
def Pcell (D : va_G) (aC : Nat → ClassId) (b0 b L : Nat) (xs : Nat → Int32) (w : Wd) (k : Int32) : Array Value → State → Prop := va_Pc [va_rf (some b), .int k] (fun U => Mm D aC b0 w U.heap ∧ KX D aC U ∧ va_X b L xs U U.heap ∧ b < U.heap.size ∧ ¬ Fb b0 b)
abbrev rL_cell : Room := { frames := 0, cells := 0, slots := 0, locals := 0 }
set_option maxHeartbeats 4000000 in
theorem m_L_cell {l : Launch} {D : va_G} {aC : Nat → ClassId} {b0 b L : Nat} {xs : Nat → Int32} {w : Wd} {k : Int32} (hk : ¬ k < 0) : Met l yL_cell (Cond.code yL_cell cL_cell 2 (some .int) :: Gw) rL_cell (Pcell D aC b0 b L xs w k) (Qr D aC b0 (some (.int (cellV xs L k))) w) 0 0 (Fb b0) := by
  refine Met.ofW (cc := cL_cell) (maxL := 2) (ret := (some .int)) (by decide) rfl ?_
  intro p e s m args below meth c s₁ B hml hv
  obtain ⟨rfl, M, hK, hX, hbl, hbA⟩ := hv
  have hts := atoms_spec (ws := Cond.code yL_cell cL_cell 2 (some .int) :: Gw) B.pre
  have hown : s.vm.findClass RL = some m.cls := findClass_of_methodNamed B.named
  have hnm : meth.name = "cell" := (name_of_methodNamed B.named B.method).1
  have X : Cx D aC p s m ([va_rf (some b), .int k] : List Value).toArray meth c cL_cell RL 2 "cell" (some .int) := ⟨B.exec, B.bytes, hml, hown, B.notSynchronized, hnm, B.returns, fun w hw => hts w (List.mem_cons_of_mem _ hw), hK⟩
  have hS : va_S (Fb b0) s.heap s.heap [] := va_S.rf
  have hl := lv_entry ([va_rf (some b), .int k]) (n := 2) (Nat.le_of_ble_eq_true rfl)
  rw [lg_entry_eq]
  generalize (lg_sl ([va_rf (some b), .int k]) ++ List.replicate (2 - (lg_sl ([va_rf (some b), .int k])).length) Slot.unset).toArray = ls at hl ⊢
  have hl : lv_has ls 2 [(0, va_rf (some b)), (1, .int k)] := hl
  refine lv_iload_n X.1 X.2.1 dL_cell_0 rfl (lv_at hl 1 rfl) ?_
  refine q_aload_n X dL_cell_1 rfl (lv_at hl 0 rfl) ?_
  refine va_slen X.1 X.2.1 hX hbl hbA hS dL_cell_2 ?_
  refine lv_icmp_ge (tgt := 12) X.1 X.2.1 dL_cell_3 (by decide) (fun c1 => ?_) (fun c1 => ?_)
  · refine lv_iconst (v := 0) X.1 X.2.1 dL_cell_12 (by decide) ?_
    rw [show cellV xs L k = 0 by unfold cellV; rw [if_pos c1]]
    exact q_iret X M hS (Nat.le_refl _) (Nat.le_refl _) dL_cell_13
  · have hin : vp_in k L := by
      intro h
      rcases h with h | h
      · exact hk h
      · refine c1 ?_
        have h2 : (L : Int) ≤ k.toInt := by
          have := cl_nn hk
          omega
        have h3 : L < 2 ^ 31 := by
          have := Int32.toInt_lt k
          omega
        rw [Int32.le_iff_toInt_le, Int32.toInt_ofNat_of_lt h3]
        exact h2
    refine q_aload_n X dL_cell_6 rfl (lv_at hl 0 rfl) ?_
    refine lv_iload_n X.1 X.2.1 dL_cell_7 rfl (lv_at hl 1 rfl) ?_
    refine va_sld X.1 X.2.1 hX hbl hbA hS hin dL_cell_8 ?_
    refine lv_goto (tgt := 13) X.1 X.2.1 dL_cell_9 (by decide) ?_
    rw [show cellV xs L k = xs k.toNatClampNeg by unfold cellV; rw [if_neg c1]]
    exact q_iret X M hS (Nat.le_refl _) (Nat.le_refl _) dL_cell_13
theorem mlL_9 : ML RL 9 yL_cell cL_cell 2 (some .int) 2 := ⟨List.mem_of_getElem? (i := 7) (by decide +kernel), List.mem_of_getElem? (i := 10) (by decide +kernel), List.mem_of_getElem? (i := 9) (by decide +kernel), by decide +kernel⟩
theorem stL_cell : Cond.static yL_cell ∈ Gw := List.mem_of_getElem? (i := 8) (by decide +kernel)
theorem q_cell {l : Launch} {D : va_G} {aC : Nat → ClassId} {p : Program} {e : Env} {s : State} {m : MethodId} {args : Array Value} {below : List Frame} {meth : Method} {c : Code} {cc : ByteArray} {nL : Nat} {nm : String} {ret : Option FieldType} {w : Wd} {H : Heap} {locs : List Loc} {cells slots : Nat} {Q : State → Prop} {pc : Nat} {ls : Array Slot} {rest : List Value} {b L : Nat} {xs : Nat → Int32} (X : Cx D aC p s m args meth c cc RL nL nm ret) (M : Mm D aC s.heap.size w H) (hS : va_S (Fb s.heap.size) s.heap H locs) (hl : ls.size = nL) (hX : va_X b L xs s s.heap) (hbl : b < s.heap.size) {k : Int32} (h8 : (rest.map fun v => v.category).sum ≤ 8) {MC MS : Nat} (e3 : room_1.cells = MC) (e4 : room_1.slots = MS) (hc : cells ≤ MC) (hs : slots ≤ MS) (hk : ¬ k < 0) (hdg : decode cc pc = .ok (.invokestatic 9, 3))
    (kk : ∀ (H1 : Heap) (locs1 : List Loc), Mm D aC s.heap.size w H1 → va_S (Fb s.heap.size) s.heap H1 locs1 → W p l e room_1 s m args below meth c H1 locs1 cells slots Q (F0 m (pc + 3) ls (.int (cellV xs L k) :: rest))) : W p l e room_1 s m args below meth c H locs cells slots Q (F0 m pc ls (.int k :: va_rf (some b) :: rest)) := by
  subst e3 e4
  have hbA : ¬ Fb s.heap.size b := Nat.not_le.mpr hbl
  exact q_go (mc := 0) (ms := 0) (va_runS (As := [va_rf (some b), .int k]) ⟨X.1, X.2.1, X.2.2.1, X.2.2.2.1, X.2.2.2.2.2.2.2.1⟩ (m_L_cell hk) ⟨callB_of 2 X.2.2.2.2.2.2.2.1 (gInL mlL_9.2.1) rfl rfl rfl (X.2.2.2.2.2.2.2.1 _ mlL_9.2.2.1) (X.2.2.2.2.2.2.2.1 _ mlL_9.1) mlL_9.2.2.2 ⟨Nat.le_of_ble_eq_true rfl, Nat.le_of_ble_eq_true rfl⟩, X.2.2.2.2.2.2.2.1 _ stL_cell⟩ ⟨fun a U g mk h => ⟨h.1, h.2.1, h.2.2.1.calling g mk a, va_X.moved (u := U) (U := U.calling g mk a) (Vm.Alike.refl U.vm) h.2.2.2.1, h.2.2.2.2⟩, fun U hU hW => ⟨rfl, by rw [hU]; exact M, X.2.2.2.2.2.2.2.2.warm hW, by rw [hU]; exact va_X.moved hW.alike (hX.kept (hS.2.1 b hbl hbA)), by rw [hU]; exact Nat.lt_of_lt_of_le hbl hS.1, hbA⟩⟩ rfl rfl hl rfl (lv_room h8) hdg ⟨hc, hs⟩) hS (st2 := .int (cellV xs L k) :: rest) rfl kk
