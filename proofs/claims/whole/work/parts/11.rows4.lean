/-! ROWS: calls, a method's entry, arraycopy, max -/
section QD
variable {l : Launch} {D : va_G} {aC : Nat → ClassId} {b0 : Nat} {p : Program} {e : Env} {R : Room} {s : State} {m : MethodId} {args : Array Value} {below : List Frame} {meth : Method} {c : Code} {cc : ByteArray} {own : String} {nL : Nat} {nm : String} {ret : Option FieldType} {w : Wd} {H : Heap} {locs : List Loc} {cells slots : Nat} {Q : State → Prop} {pc : Nat} {ls : Array Slot} {rest st0 st2 : List Value}
def ML (own : String) (ix : Nat) (y : MethodName) (bytes : ByteArray) (maxL : Nat) (ret : Option FieldType) (n : Nat) : Prop := Cond.methodLink own ix y ∈ Gw ∧ Cond.code y bytes maxL ret ∈ Gw ∧ Cond.initialized y.cls ∈ Gw ∧ (y.cls ≠ "java/lang/invoke/MethodHandle" ∧ y.cls ≠ "java/lang/invoke/VarHandle" ∧ (parseMethodDescriptor y.desc).map (fun d => d.parameters.length) = some n)
def MN (y : MethodName) (bytes : ByteArray) (maxL : Nat) (ret : Option FieldType) (n : Nat) : Prop := Cond.code y bytes maxL ret ∈ Gw ∧ Cond.initialized y.cls ∈ Gw ∧ (y.cls ≠ "java/lang/invoke/MethodHandle" ∧ y.cls ≠ "java/lang/invoke/VarHandle" ∧ (parseMethodDescriptor y.desc).map (fun d => d.parameters.length) = some n)
/-- behind a call -/
theorem q_go {w' : Wd} {ov : Option Value} {av : Array Value} {mc ms : Nat} (hr : va_Run p l e R s m args below meth c H locs cells slots mc ms (F0 m pc ls st0) rest (Qr D aC b0 ov w' av) (Fb b0)) (hS : va_S (Fb b0) s.heap H locs) (h2 : ov.toList ++ rest = st2)
    (kk : ∀ (H1 : Heap) (locs1 : List Loc), Mm D aC b0 w' H1 → va_S (Fb b0) s.heap H1 locs1 → W p l e R s m args below meth c H1 locs1 (cells + mc) (slots + ms) Q (F0 m (pc + 3) ls st2)) : W p l e R s m args below meth c H locs cells slots Q (F0 m pc ls st0) := by
  intro T hT X
  obtain ⟨v, st₀, t, T', L, h0, X', hL, e1, e2, ⟨⟨hv, hM⟩, hz, hk⟩, st⟩ := hr T hT X
  cases hv
  subst h2
  rw [h0] at hz hk
  obtain ⟨t2, a1, b1⟩ := kk T'.heap (locs ++ L) (by rw [e1]; exact hM)
    ⟨Nat.le_trans hS.1 (by rw [e1]; exact hz), fun q h1 h2 => by rw [e1, hk q (Nat.lt_of_lt_of_le h1 hS.1) h2]; exact hS.2.1 q h1 h2, fun q hq => by
      rcases List.mem_append.mp hq with h | h
      · exact hS.2.2 q h
      · exact hL q h⟩ T' rfl X'
  exact ⟨t2, st t2 a1, b1⟩
theorem blind (D : va_G) (aC : Nat → ClassId) (b0 : Nat) (av : List Value) (w : Wd) : FrameBlind (va_Pc av (fun U => Mm D aC b0 w U.heap ∧ KX D aC U)) := fun a U g mk h => ⟨h.1, h.2.1, h.2.2.calling g mk a⟩
theorem pre (X : Cx D aC p s m args meth c cc own nL nm ret) (M : Mm D aC b0 w H) (av : List Value) : ∀ U : State, U.heap = H → s.WarmedH U.vm → va_Pc av (fun U => Mm D aC b0 w U.heap ∧ KX D aC U) av.toArray U := fun U hU hW => ⟨rfl, by rw [hU]; exact M, X.2.2.2.2.2.2.2.2.warm hW⟩
theorem q_cS (X : Cx D aC p s m args meth c cc own nL nm ret) (M : Mm D aC b0 w H) (hS : va_S (Fb b0) s.heap H locs) (hl : ls.size = nL) {y : MethodName} {bytes : ByteArray} {maxL ix n : Nat} {rt : Option FieldType} {rm : Room} {As : List Value} {ov : Option Value} {w' : Wd} (hM : Ct l D aC b0 y (Cond.code y bytes maxL rt :: Gw) rm As w ov w') (hL : ML own ix y bytes maxL rt n) (hst : Cond.static y ∈ Gw) (hn : As.length = n) (hR : rm.frames + 1 ≤ R.frames ∧ 8 + (maxL + 11) + rm.locals ≤ R.locals) (hstk : st0 = As.reverse ++ rest) (h8 : (rest.map fun v => v.category).sum ≤ 8) {mc ms MC MS : Nat} (e1 : rm.cells = mc) (e2 : rm.slots = ms) (e3 : R.cells = MC) (e4 : R.slots = MS) (hc : cells + mc ≤ MC) (hs : slots + ms ≤ MS) (hdg : decode cc pc = .ok (.invokestatic ix, 3)) (h2 : ov.toList ++ rest = st2)
    (kk : ∀ (H1 : Heap) (locs1 : List Loc), Mm D aC b0 w' H1 → va_S (Fb b0) s.heap H1 locs1 → W p l e R s m args below meth c H1 locs1 (cells + mc) (slots + ms) Q (F0 m (pc + 3) ls st2)) : W p l e R s m args below meth c H locs cells slots Q (F0 m pc ls st0) := by
  subst e1 e2 e3 e4
  exact q_go (va_runS ⟨X.1, X.2.1, X.2.2.1, X.2.2.2.1, X.2.2.2.2.2.2.2.1⟩ hM ⟨callB_of n X.2.2.2.2.2.2.2.1 (gInL hL.2.1) rfl rfl rfl (X.2.2.2.2.2.2.2.1 _ hL.2.2.1) (X.2.2.2.2.2.2.2.1 _ hL.1) hL.2.2.2 hR, X.2.2.2.2.2.2.2.1 _ hst⟩ ⟨blind D aC b0 As w, pre X M As⟩ rfl hn hl hstk (lv_room h8) hdg ⟨hc, hs⟩) hS h2 kk
theorem q_cI (X : Cx D aC p s m args meth c cc own nL nm ret) (M : Mm D aC b0 w H) (hS : va_S (Fb b0) s.heap H locs) (hl : ls.size = nL) {y : MethodName} {bytes : ByteArray} {maxL ix n a : Nat} {rm : Room} {As : List Value} {w' : Wd} (hM : Ct l D aC b0 y (Cond.code y bytes maxL none :: Gw) rm (va_rf (some a) :: As) w none w') (hL : ML own ix y bytes maxL none n) (hst : Cond.instanceMethod y ∈ Gw) (hy : y.name = "<init>") (hn : As.length = n) (hR : rm.frames + 1 ≤ R.frames ∧ 8 + (maxL + 11) + rm.locals ≤ R.locals) (hstk : st0 = As.reverse ++ va_rf (some a) :: rest) (h8 : (rest.map fun v => v.category).sum ≤ 8) {mc ms MC MS : Nat} (e1 : rm.cells = mc) (e2 : rm.slots = ms) (e3 : R.cells = MC) (e4 : R.slots = MS) (hc : cells + mc ≤ MC) (hs : slots + ms ≤ MS) (hdg : decode cc pc = .ok (.invokespecial ix, 3))
    (kk : ∀ (H1 : Heap) (locs1 : List Loc), Mm D aC b0 w' H1 → va_S (Fb b0) s.heap H1 locs1 → W p l e R s m args below meth c H1 locs1 (cells + mc) (slots + ms) Q (F0 m (pc + 3) ls rest)) : W p l e R s m args below meth c H locs cells slots Q (F0 m pc ls st0) := by
  subst e1 e2 e3 e4
  exact q_go (va_runI ⟨X.1, X.2.1, X.2.2.1, X.2.2.2.1, X.2.2.2.2.2.2.2.1⟩ hM ⟨callB_of n X.2.2.2.2.2.2.2.1 (gInL hL.2.1) rfl rfl rfl (X.2.2.2.2.2.2.2.1 _ hL.2.2.1) (X.2.2.2.2.2.2.2.1 _ hL.1) hL.2.2.2 hR, hy, X.2.2.2.2.2.2.2.1 _ hst⟩ ⟨blind D aC b0 _ w, pre X M _⟩ rfl hn hl hstk (lv_room h8) hdg ⟨hc, hs⟩) hS rfl kk
theorem q_cV (X : Cx D aC p s m args meth c cc own nL nm ret) (M : Mm D aC b0 w H) (hS : va_S (Fb b0) s.heap H locs) (hl : ls.size = nL) {y : MethodName} {bytes : ByteArray} {maxL ix n a ci : Nat} {rt : Option FieldType} {rm : Room} {As : List Value} {ov : Option Value} {w' : Wd} {r : vw_C} (hM : Ct l D aC b0 y (Cond.code y bytes maxL rt :: Gw) rm (va_rf (some a) :: As) w ov w') (hL : ML own ix y bytes maxL rt n) (hst : Cond.instanceMethod y ∈ Gw) (hsel : Cond.selects r.1 y y ∈ Gw) (hci : vwCl[ci]? = some r) (h99 : ci < 99) (ha : wK w a = ci + 1) (hn : As.length = n) (hR : rm.frames + 1 ≤ R.frames ∧ 8 + (maxL + 11) + rm.locals ≤ R.locals) (hstk : st0 = As.reverse ++ va_rf (some a) :: rest) (h8 : (rest.map fun v => v.category).sum ≤ 8) {mc ms MC MS : Nat} (e1 : rm.cells = mc) (e2 : rm.slots = ms) (e3 : R.cells = MC) (e4 : R.slots = MS) (hc : cells + mc ≤ MC) (hs : slots + ms ≤ MS) (hdg : decode cc pc = .ok (.invokevirtual ix, 3)) (h2 : ov.toList ++ rest = st2)
    (kk : ∀ (H1 : Heap) (locs1 : List Loc), Mm D aC b0 w' H1 → va_S (Fb b0) s.heap H1 locs1 → W p l e R s m args below meth c H1 locs1 (cells + mc) (slots + ms) Q (F0 m (pc + 3) ls st2)) : W p l e R s m args below meth c H locs cells slots Q (F0 m pc ls st0) := by
  subst e1 e2 e3 e4
  exact q_go (va_runV ⟨X.1, X.2.1, X.2.2.1, X.2.2.2.1, X.2.2.2.2.2.2.2.1⟩ hM ⟨callB_of n X.2.2.2.2.2.2.2.1 (gInL hL.2.1) rfl rfl rfl (X.2.2.2.2.2.2.2.1 _ hL.2.2.1) (X.2.2.2.2.2.2.2.1 _ hL.1) hL.2.2.2 hR, X.2.2.2.2.2.2.2.1 _ hst, X.2.2.2.2.2.2.2.1 _ hsel⟩ ⟨blind D aC b0 _ w, va_recv X.2.2.2.2.2.2.2.2.1 M.2.2.2 hci (M.obj ha h99), pre X M _⟩ rfl hn hl hstk (lv_room h8) hdg ⟨hc, hs⟩) hS h2 kk
/-- calls of a nest mate's private members -/
theorem cnB {y : MethodName} {bytes : ByteArray} {maxL ix n : Nat} {rt : Option FieldType} {rm : Room} (X : Cx D aC p s m args meth c cc own nL nm ret) (hL : MN y bytes maxL rt n) (hN : va_Nw (.methodLinkNest own ix y RX5) s) (hR : rm.frames + 1 ≤ R.frames ∧ 8 + (maxL + 11) + rm.locals ≤ R.locals) : va_CN R s args own ix y RX5 bytes maxL rt (Cond.code y bytes maxL rt :: Gw) rm rm.cells rm.slots n :=
  va_cnB n X.2.2.2.2.2.2.2.1 (gInL hL.1) rfl rfl rfl hN (X.2.2.2.2.2.2.2.1 _ hL.2.1) hL.2.2 hR
theorem q_cSN (X : Cx D aC p s m args meth c cc own nL nm ret) (M : Mm D aC b0 w H) (hS : va_S (Fb b0) s.heap H locs) (hl : ls.size = nL) {y : MethodName} {bytes : ByteArray} {maxL ix n : Nat} {rt : Option FieldType} {rm : Room} {As : List Value} {ov : Option Value} {w' : Wd} (hM : Ct l D aC b0 y (Cond.code y bytes maxL rt :: Gw) rm As w ov w') (hL : MN y bytes maxL rt n) (hN : va_Nw (.methodLinkNest own ix y RX5) s) (hst : Cond.static y ∈ Gw) (hn : As.length = n) (hR : rm.frames + 1 ≤ R.frames ∧ 8 + (maxL + 11) + rm.locals ≤ R.locals) (hstk : st0 = As.reverse ++ rest) (h8 : (rest.map fun v => v.category).sum ≤ 8) {mc ms MC MS : Nat} (e1 : rm.cells = mc) (e2 : rm.slots = ms) (e3 : R.cells = MC) (e4 : R.slots = MS) (hc : cells + mc ≤ MC) (hs : slots + ms ≤ MS) (hdg : decode cc pc = .ok (.invokestatic ix, 3)) (h2 : ov.toList ++ rest = st2)
    (kk : ∀ (H1 : Heap) (locs1 : List Loc), Mm D aC b0 w' H1 → va_S (Fb b0) s.heap H1 locs1 → W p l e R s m args below meth c H1 locs1 (cells + mc) (slots + ms) Q (F0 m (pc + 3) ls st2)) : W p l e R s m args below meth c H locs cells slots Q (F0 m pc ls st0) := by
  subst e1 e2 e3 e4
  exact q_go (va_runSN ⟨X.1, X.2.1, X.2.2.1, X.2.2.2.1, X.2.2.2.2.2.2.2.1⟩ hM ⟨cnB X hL hN hR, X.2.2.2.2.2.2.2.1 _ hst, trivial⟩ ⟨blind D aC b0 As w, pre X M As⟩ rfl hn hl hstk (lv_room h8) hdg ⟨hc, hs⟩) hS h2 kk
theorem q_cIN (X : Cx D aC p s m args meth c cc own nL nm ret) (M : Mm D aC b0 w H) (hS : va_S (Fb b0) s.heap H locs) (hl : ls.size = nL) {y : MethodName} {bytes : ByteArray} {maxL ix n a : Nat} {rm : Room} {As : List Value} {w' : Wd} (hM : Ct l D aC b0 y (Cond.code y bytes maxL none :: Gw) rm (va_rf (some a) :: As) w none w') (hL : MN y bytes maxL none n) (hN : va_Nw (.methodLinkNest own ix y RX5) s) (hst : Cond.instanceMethod y ∈ Gw) (hy : y.name = "<init>") (hn : As.length = n) (hR : rm.frames + 1 ≤ R.frames ∧ 8 + (maxL + 11) + rm.locals ≤ R.locals) (hstk : st0 = As.reverse ++ va_rf (some a) :: rest) (h8 : (rest.map fun v => v.category).sum ≤ 8) {mc ms MC MS : Nat} (e1 : rm.cells = mc) (e2 : rm.slots = ms) (e3 : R.cells = MC) (e4 : R.slots = MS) (hc : cells + mc ≤ MC) (hs : slots + ms ≤ MS) (hdg : decode cc pc = .ok (.invokespecial ix, 3))
    (kk : ∀ (H1 : Heap) (locs1 : List Loc), Mm D aC b0 w' H1 → va_S (Fb b0) s.heap H1 locs1 → W p l e R s m args below meth c H1 locs1 (cells + mc) (slots + ms) Q (F0 m (pc + 3) ls rest)) : W p l e R s m args below meth c H locs cells slots Q (F0 m pc ls st0) := by
  subst e1 e2 e3 e4
  exact q_go (va_runIN ⟨X.1, X.2.1, X.2.2.1, X.2.2.2.1, X.2.2.2.2.2.2.2.1⟩ hM ⟨cnB X hL hN hR, hy, X.2.2.2.2.2.2.2.1 _ hst⟩ ⟨blind D aC b0 _ w, pre X M _⟩ rfl hn hl hstk (lv_room h8) hdg ⟨hc, hs⟩) hS rfl kk
theorem g_oi : Cond.instanceMethod objectInit ∈ Gw := List.mem_of_getElem? (i := 15) (by decide +kernel)
theorem g_oc : Cond.code objectInit ⟨#[0xb1]⟩ 1 none ∈ Gw := List.mem_of_getElem? (i := 16) (by decide +kernel)
/-- Object() -/
theorem q_obj (X : Cx D aC p s m args meth c cc own nL nm ret) (hl : ls.size = nL) {ix a : Nat} (h1 : Cond.methodLink own ix objectInit ∈ Gw) (hfr : 1 ≤ R.frames) (hlo : 12 + (rest.map fun v => v.category).sum ≤ R.locals) (hdg : decode cc pc = .ok (.invokespecial ix, 3))
    (kk : W p l e R s m args below meth c H locs cells slots Q (F0 m (pc + 3) ls rest)) : W p l e R s m args below meth c H locs cells slots Q (F0 m pc ls (va_rf (some a) :: rest)) :=
  W.objInit X.1 X.2.1 X.2.2.2.1 (X.2.2.2.2.2.2.2.1 _ h1) (X.2.2.2.2.2.2.2.1 _ g_oi) (X.2.2.2.2.2.2.2.1 _ g_oc) rfl (hl.trans X.2.2.1.symm) rfl hdg hfr (by show 2 * 0 + _ + 12 ≤ _; omega) kk
/-- a method's entry -/
theorem q_met {y : MethodName} {bytes : ByteArray} {maxL : Nat} {rt : Option FieldType} {rm : Room} {av : List Value} {ov : Option Value} {w' : Wd} (hp : plainName y.cls = true) (hlen : (lg_sl av).length ≤ maxL)
    (h : ∀ (p : Program) (e : Env) (s : State) (m : MethodId) (below : List Frame) (meth : Method) (c : Code), Cx D aC p s m av.toArray meth c bytes y.cls maxL y.name rt → Mm D aC b0 w s.heap → ∀ ls : Array Slot, lv_has ls maxL (lv_args 0 av) → W p l e rm s m av.toArray below meth c s.heap [] 0 0 (MQ below (Qr D aC b0 ov w') av.toArray s rm.cells rm.slots (Fb b0)) (F0 m 0 ls [])) : Ct l D aC b0 y (Cond.code y bytes maxL rt :: Gw) rm av w ov w' := by
  refine Met.ofW (cc := bytes) (maxL := maxL) (ret := rt) hp rfl ?_
  intro p e s m args below meth c s₁ B hml hv
  obtain ⟨rfl, M, hK⟩ := hv
  have hts := atoms_spec (ws := Cond.code y bytes maxL rt :: Gw) B.pre
  have hown : s.vm.findClass y.cls = some m.cls := findClass_of_methodNamed B.named
  have hnm : meth.name = y.name := (name_of_methodNamed B.named B.method).1
  have hl := lv_entry av (n := maxL) hlen
  rw [lg_entry_eq]
  exact h p e s m below meth c ⟨B.exec, B.bytes, hml, hown, B.notSynchronized, hnm, B.returns, fun w hw => hts w (List.mem_cons_of_mem _ hw), hK⟩ M _ hl
theorem q_max (X : Cx D aC p s m args meth c cc own nL nm ret) (hl : ls.size = nL) {ix : Nat} (h1 : Cond.methodLink own ix Lib.Math.max.name ∈ Gw) (h2 : Cond.static Lib.Math.max.name ∈ Gw) (h3 : Cond.initialized "java/lang/Math" ∈ Gw) (h4 : Cond.code Lib.Math.max.name Lib.Math.max.code 2 (some .int) ∈ Gw) (hfr : 1 ≤ R.frames) (hlo : (rest.map fun v => v.category).sum + 13 ≤ R.locals) {MC MS : Nat} (e3 : R.cells = MC) (e4 : R.slots = MS) (hc : cells ≤ MC) (hs : slots ≤ MS) {x y : Int32} (hdg : decode cc pc = .ok (.invokestatic ix, 3))
    (kk : W p l e R s m args below meth c H locs cells slots Q (F0 m (pc + 3) ls (.int (if x < y then y else x) :: rest))) : W p l e R s m args below meth c H locs cells slots Q (F0 m pc ls (.int y :: .int x :: rest)) := by
  subst e3 e4
  exact va_mmax X.1 X.2.1 (X.2.2.1.trans hl.symm) X.2.2.2.1 (X.2.2.2.2.2.2.2.1 _ h1) (X.2.2.2.2.2.2.2.1 _ h2) (X.2.2.2.2.2.2.2.1 _ h3) (X.2.2.2.2.2.2.2.1 _ h4) hfr hlo hc hs hdg kk
theorem cl_nn {z : Int32} (hz : ¬ z < 0) : z.toInt = (z.toNatClampNeg : Int) := by
  have hz0 : (0 : Int) ≤ z.toInt := by
    have := Int32.not_lt.mp hz
    simpa using Int32.le_iff_toInt_le.mp this
  show z.toInt = ((z.toInt.toNat : Nat) : Int)
  omega
/-- System.arraycopy over ints, over longs: which words it needs -/
def SA (own : String) (ix : Nat) : Prop := Cond.methodLink own ix arraycopyName ∈ Gw ∧ Cond.native arraycopyName ∈ Gw ∧ Cond.static arraycopyName ∈ Gw ∧ Cond.initialized "java/lang/System" ∈ Gw
theorem nfw18 : nativeFrameWords "java/lang/System" "arraycopy" 5 + 11 = 18 := by decide +kernel
theorem q_cpy (X : Cx D aC p s m args meth c cc own nL nm ret) (M : Mm D aC b0 w H) (hS : va_S (Fb b0) s.heap H locs) (hl : ls.size = nL) {ix t a0 a1 : Nat} {ty : FieldType} (hA : SA own ix) (ht : (tyL aC)[t]? = some (aC t, ty)) (hprim : refKind ty = false) (f0 f1 : Nat → Value) (k0 : wK w a0 = 100 + t) (k1 : wK w a1 = 100 + t) (hc0 : H[a0]? = some (arrV (aC t) (wN w a0) f0)) (hc1 : H[a1]? = some (arrV (aC t) (wN w a1) f1)) {sp dp n : Int32} (h1 : ¬ sp < 0) (h2 : ¬ dp < 0) (h3 : ¬ n < 0) (h4 : sp.toNatClampNeg + n.toNatClampNeg ≤ wN w a0) (h5 : dp.toNatClampNeg + n.toNatClampNeg ≤ wN w a1) (hfit : ∀ i, i < n.toNatClampNeg → fits ty (f0 (sp.toNatClampNeg + i)) = true) (href : ∀ j, f0 j ≠ .null ∧ ∀ q, f0 j ≠ .ref q)
    {w' : Wd} (hn : wn w' = wn w) (hk : wK w' = wK w) (ho : ∀ b, b ≠ a1 → cellOf aC w' b = cellOf aC w b) (he : copied (arrV (aC t) (wN w a0) f0) (arrV (aC t) (wN w a1) f1) sp dp n = vp_cell (aC t) (aRow w' a1 t))
    (hfr : 1 ≤ R.frames) (hlo : (rest.map fun v => v.category).sum + 18 ≤ R.locals) (hdg : decode cc pc = .ok (.invokestatic ix, 3))
    (kk : ∀ (H1 : Heap) (locs1 : List Loc), Mm D aC b0 w' H1 → va_S (Fb b0) s.heap H1 locs1 → W p l e R s m args below meth c H1 locs1 cells slots Q (F0 m (pc + 3) ls rest)) : W p l e R s m args below meth c H locs cells slots Q (F0 m pc ls (.int n :: .int dp :: va_rf (some a1) :: .int sp :: va_rf (some a0) :: rest)) := by
  obtain ⟨hx, hb, hml, hown, -, -, -, hts, hK⟩ := X
  intro T hT X
  obtain ⟨-, q0, hq0, cm0, hkk0⟩ := (hK.1.2 t _ ht).1 (wN w a0) f0
  obtain ⟨-, q1, hq1, cm1, hkk1⟩ := (hK.1.2 t _ ht).1 (wN w a1) f1
  obtain ⟨vm', X', step⟩ := X.arraycopy hx hown (hts _ hA.1) (hts _ hA.2.1) (hts _ hA.2.2.1) (hts _ hA.2.2.2) (src := a0) (dst := a1) (cs := arrV (aC t) (wN w a0) f0) (cd := arrV (aC t) (wN w a1) f1) (srcPos := sp) (destPos := dp) (n := n) (by rw [hT]; exact hc0) (by rw [hT]; exact hc1)
    (fun _ h => by cases h) (fun _ h => by cases h) (fun h => by cases h) (fun h => by cases h) hq0 hq1 hkk0 hkk1 (by simp [hprim]) h1 h2 h3
    (by rw [cl_nn h1, cl_nn h3, arrV_size]; omega)
    (by rw [cl_nn h2, cl_nn h3, arrV_size]; omega)
    (fun vm₁ _ i hi => by
      have e : (arrV (aC t) (wN w a0) f0).slots.getD (sp.toNatClampNeg + i) .null = f0 (sp.toNatClampNeg + i) := by
        rw [Array.getD_eq_getD_getElem?, arrV_read _ _ (by omega)]
        rfl
      refine ⟨?_, ?_⟩
      · rw [e]
        exact hfit i hi
      · rw [e]
        have hh := href (sp.toNatClampNeg + i)
        cases hv : f0 (sp.toNatClampNeg + i) with
        | null => exact absurd hv hh.1
        | ref q => exact absurd hv (hh.2 q)
        | _ => trivial)
    (g := F0 m pc ls (.int n :: .int dp :: .ref a1 :: .int sp :: .ref a0 :: rest)) rfl (by rw [hml]; exact hl) (rest := rest) rfl (by rw [hb]; exact hdg) hfr (by show 2 * 0 + _ + _ ≤ _; rw [nfw18]; omega)
  rw [he] at X' step
  have hlt : a1 < H.size := (Array.getElem?_eq_some_iff.mp hc1).1
  have hheap : ((T.setVm vm').setCell a1 (vp_cell (aC t) (aRow w' a1 t))).heap = H.setIfInBounds a1 (vp_cell (aC t) (aRow w' a1 t)) := by rw [← hT]; rfl
  have oq : ∀ q : Nat, q ≠ a1 → (H.setIfInBounds a1 (vp_cell (aC t) (aRow w' a1 t)))[q]? = H[q]? := fun q hq => by simp [Array.getElem?_setIfInBounds, Ne.symm hq]
  have hA1 : b0 ≤ a1 := (M.2.2.1 a1 (by omega)).1
  obtain ⟨t2, g1, g2⟩ := kk _ _ (M.ast k1 (by simp) oq hn hk ho (by simp [Array.getElem?_setIfInBounds, hlt])) ⟨by simp; exact hS.1, fun q g1 g2 => by
      rw [oq q (fun e => g2 (by rw [e]; exact hA1))]
      exact hS.2.1 q g1 g2, fun q hq => by
      rcases List.mem_append.mp hq with h | h
      · exact hS.2.2 q h
      · obtain ⟨z, -, hz⟩ := List.mem_map.mp h
        rw [← hz]
        exact hA1⟩ _ hheap X'
  exact ⟨t2, step t2 g1, g2⟩
theorem q_cpyI (X : Cx D aC p s m args meth c cc own nL nm ret) (M : Mm D aC b0 w H) (hS : va_S (Fb b0) s.heap H locs) (hl : ls.size = nL) {ix a0 a1 : Nat} (hA : SA own ix) (k0 : wK w a0 = 100) (k1 : wK w a1 = 100) {sp dp n : Int32} (h1 : ¬ sp < 0) (h2 : ¬ dp < 0) (h3 : ¬ n < 0) (h4 : sp.toNatClampNeg + n.toNatClampNeg ≤ wN w a0) (h5 : dp.toNatClampNeg + n.toNatClampNeg ≤ wN w a1)
    (hfr : 1 ≤ R.frames) (hlo : (rest.map fun v => v.category).sum + 18 ≤ R.locals) (hdg : decode cc pc = .ok (.invokestatic ix, 3))
    (kk : ∀ (H1 : Heap) (locs1 : List Loc), Mm D aC b0 (rI w a1 (va_cpy (wI w a0) (wI w a1) sp.toNatClampNeg dp.toNatClampNeg n.toNatClampNeg)) H1 → va_S (Fb b0) s.heap H1 locs1 → W p l e R s m args below meth c H1 locs1 cells slots Q (F0 m (pc + 3) ls rest)) : W p l e R s m args below meth c H locs cells slots Q (F0 m pc ls (.int n :: .int dp :: va_rf (some a1) :: .int sp :: va_rf (some a0) :: rest)) :=
  q_cpy (t := 0) (ty := .int) (w' := rI w a1 (va_cpy (wI w a0) (wI w a1) sp.toNatClampNeg dp.toNatClampNeg n.toNatClampNeg)) X M hS hl hA rfl rfl (fun j => .int (wI w a0 j)) (fun j => .int (wI w a1 j)) k0 k1 (M.2.2.2 _ _ (M.arr (t := 0) k0)) (M.2.2.2 _ _ (M.arr (t := 0) k1)) h1 h2 h3 h4 h5 (fun _ _ => rfl) (fun j => ⟨(fun h => by cases h), (fun q h => by cases h)⟩) rfl rfl rI_oth
    ((va_copied (fun z => Value.int z) (aC 0) (aC 0) (wI w a0) (wI w a1) h4).trans (by
      show _ = arrV (aC 0) (wN w a1) (fun j => .int (va_up (wI w) a1 (va_cpy (wI w a0) (wI w a1) sp.toNatClampNeg dp.toNatClampNeg n.toNatClampNeg) a1 j))
      rw [va_up_self])) hfr hlo hdg kk
theorem q_cpyL (X : Cx D aC p s m args meth c cc own nL nm ret) (M : Mm D aC b0 w H) (hS : va_S (Fb b0) s.heap H locs) (hl : ls.size = nL) {ix a0 a1 : Nat} (hA : SA own ix) (k0 : wK w a0 = 101) (k1 : wK w a1 = 101) {sp dp n : Int32} (h1 : ¬ sp < 0) (h2 : ¬ dp < 0) (h3 : ¬ n < 0) (h4 : sp.toNatClampNeg + n.toNatClampNeg ≤ wN w a0) (h5 : dp.toNatClampNeg + n.toNatClampNeg ≤ wN w a1)
    (hfr : 1 ≤ R.frames) (hlo : (rest.map fun v => v.category).sum + 18 ≤ R.locals) (hdg : decode cc pc = .ok (.invokestatic ix, 3))
    (kk : ∀ (H1 : Heap) (locs1 : List Loc), Mm D aC b0 (rL w a1 (va_cpy (wL w a0) (wL w a1) sp.toNatClampNeg dp.toNatClampNeg n.toNatClampNeg)) H1 → va_S (Fb b0) s.heap H1 locs1 → W p l e R s m args below meth c H1 locs1 cells slots Q (F0 m (pc + 3) ls rest)) : W p l e R s m args below meth c H locs cells slots Q (F0 m pc ls (.int n :: .int dp :: va_rf (some a1) :: .int sp :: va_rf (some a0) :: rest)) :=
  q_cpy (t := 1) (ty := .long) (w' := rL w a1 (va_cpy (wL w a0) (wL w a1) sp.toNatClampNeg dp.toNatClampNeg n.toNatClampNeg)) X M hS hl hA rfl rfl (fun j => .long (wL w a0 j)) (fun j => .long (wL w a1 j)) k0 k1 (M.2.2.2 _ _ (M.arr (t := 1) k0)) (M.2.2.2 _ _ (M.arr (t := 1) k1)) h1 h2 h3 h4 h5 (fun _ _ => rfl) (fun j => ⟨(fun h => by cases h), (fun q h => by cases h)⟩) rfl rfl rL_oth
    ((va_copied (fun z => Value.long z) (aC 1) (aC 1) (wL w a0) (wL w a1) h4).trans (by
      show _ = arrV (aC 1) (wN w a1) (fun j => .long (va_up (wL w) a1 (va_cpy (wL w a0) (wL w a1) sp.toNatClampNeg dp.toNatClampNeg n.toNatClampNeg) a1 j))
      rw [va_up_self])) hfr hlo hdg kk
end QD
