section
-- ===== PART A: goes FIRST, ahead of the names: the tables' words, and 'selects' of the private methods out of them =====
/-- a private method of a class that the tables say can be made, by its rows of tables_1 -/
def lw_okq (q : MethodName × Nat) : Prop := (q.1.cls ≠ "java/lang/invoke/MethodHandle" ∧ q.1.cls ≠ "java/lang/invoke/VarHandle") ∧ Cond.instantiable q.1.cls q.2 ∈ tables_1 ∧ Cond.privateMethod q.1 ∈ tables_1 ∧ Cond.instanceMethod q.1 ∈ tables_1
theorem lw_p0 : lw_okq (⟨"OnceCalls", "clientAt", "(I)LOnceCalls$Client;"⟩, 9) := ⟨⟨by decide +kernel, by decide +kernel⟩, List.mem_of_getElem? (i := 12) (by decide +kernel), List.mem_of_getElem? (i := 221) (by decide +kernel), List.mem_of_getElem? (i := 222) (by decide +kernel)⟩
theorem lw_p1 : lw_okq (⟨"OnceCalls", "isLive", "(II)Z"⟩, 9) := ⟨⟨by decide +kernel, by decide +kernel⟩, List.mem_of_getElem? (i := 12) (by decide +kernel), List.mem_of_getElem? (i := 229) (by decide +kernel), List.mem_of_getElem? (i := 230) (by decide +kernel)⟩
theorem lw_p2 : lw_okq (⟨"OnceCalls", "send", "(LOnceCalls$Letter;)V"⟩, 9) := ⟨⟨by decide +kernel, by decide +kernel⟩, List.mem_of_getElem? (i := 12) (by decide +kernel), List.mem_of_getElem? (i := 325) (by decide +kernel), List.mem_of_getElem? (i := 326) (by decide +kernel)⟩
theorem lw_p3 : lw_okq (⟨"OnceCalls", "serverAt", "(I)LOnceCalls$Server;"⟩, 9) := ⟨⟨by decide +kernel, by decide +kernel⟩, List.mem_of_getElem? (i := 12) (by decide +kernel), List.mem_of_getElem? (i := 345) (by decide +kernel), List.mem_of_getElem? (i := 346) (by decide +kernel)⟩
theorem lw_p4 : lw_okq (⟨"OnceCalls", "takeAnswer", "(LOnceCalls$Letter;)V"⟩, 9) := ⟨⟨by decide +kernel, by decide +kernel⟩, List.mem_of_getElem? (i := 12) (by decide +kernel), List.mem_of_getElem? (i := 361) (by decide +kernel), List.mem_of_getElem? (i := 362) (by decide +kernel)⟩
theorem lw_p5 : lw_okq (⟨"OnceCalls", "takeAtServer", "(LOnceCalls$Server;LOnceCalls$Letter;)V"⟩, 9) := ⟨⟨by decide +kernel, by decide +kernel⟩, List.mem_of_getElem? (i := 12) (by decide +kernel), List.mem_of_getElem? (i := 369) (by decide +kernel), List.mem_of_getElem? (i := 370) (by decide +kernel)⟩
theorem lw_p6 : lw_okq (⟨"OnceCalls", "takeRequest", "(LOnceCalls$Server;LOnceCalls$Letter;)V"⟩, 9) := ⟨⟨by decide +kernel, by decide +kernel⟩, List.mem_of_getElem? (i := 12) (by decide +kernel), List.mem_of_getElem? (i := 373) (by decide +kernel), List.mem_of_getElem? (i := 374) (by decide +kernel)⟩
theorem lw_p7 : lw_okq (⟨"OnceCalls", "answer", "(LOnceCalls$Server;LOnceCalls$Letter;IJ)V"⟩, 9) := ⟨⟨by decide +kernel, by decide +kernel⟩, List.mem_of_getElem? (i := 12) (by decide +kernel), List.mem_of_getElem? (i := 381) (by decide +kernel), List.mem_of_getElem? (i := 382) (by decide +kernel)⟩
theorem lw_p8 : lw_okq (⟨"OnceCalls", "sendFrom", "(LOnceCalls$Server;LOnceCalls$Letter;)V"⟩, 9) := ⟨⟨by decide +kernel, by decide +kernel⟩, List.mem_of_getElem? (i := 12) (by decide +kernel), List.mem_of_getElem? (i := 385) (by decide +kernel), List.mem_of_getElem? (i := 386) (by decide +kernel)⟩
theorem lw_p9 : lw_okq (⟨"OnceCalls", "takeOwnRequest", "(LOnceCalls$Server;LOnceCalls$Bucket;LOnceCalls$Letter;)V"⟩, 9) := ⟨⟨by decide +kernel, by decide +kernel⟩, List.mem_of_getElem? (i := 12) (by decide +kernel), List.mem_of_getElem? (i := 389) (by decide +kernel), List.mem_of_getElem? (i := 390) (by decide +kernel)⟩
theorem lw_p10 : lw_okq (⟨"OnceCalls$Bucket", "removeRecordsBelow", "(II)V"⟩, 11) := ⟨⟨by decide +kernel, by decide +kernel⟩, List.mem_of_getElem? (i := 48) (by decide +kernel), List.mem_of_getElem? (i := 398) (by decide +kernel), List.mem_of_getElem? (i := 399) (by decide +kernel)⟩
theorem lw_p11 : lw_okq (⟨"OnceCalls", "takeMove", "(LOnceCalls$Server;LOnceCalls$Letter;)V"⟩, 9) := ⟨⟨by decide +kernel, by decide +kernel⟩, List.mem_of_getElem? (i := 12) (by decide +kernel), List.mem_of_getElem? (i := 425) (by decide +kernel), List.mem_of_getElem? (i := 426) (by decide +kernel)⟩
theorem lw_p12 : lw_okq (⟨"OnceCalls", "takeTaken", "(LOnceCalls$Server;LOnceCalls$Letter;)V"⟩, 9) := ⟨⟨by decide +kernel, by decide +kernel⟩, List.mem_of_getElem? (i := 12) (by decide +kernel), List.mem_of_getElem? (i := 430) (by decide +kernel), List.mem_of_getElem? (i := 431) (by decide +kernel)⟩
theorem lw_p13 : lw_okq (⟨"OnceCalls", "takeAck", "(LOnceCalls$Server;LOnceCalls$Letter;)V"⟩, 9) := ⟨⟨by decide +kernel, by decide +kernel⟩, List.mem_of_getElem? (i := 12) (by decide +kernel), List.mem_of_getElem? (i := 444) (by decide +kernel), List.mem_of_getElem? (i := 445) (by decide +kernel)⟩
theorem lw_p14 : lw_okq (⟨"OnceCalls", "removeDeadRecords", "(LOnceCalls$Bucket;)I"⟩, 9) := ⟨⟨by decide +kernel, by decide +kernel⟩, List.mem_of_getElem? (i := 12) (by decide +kernel), List.mem_of_getElem? (i := 494) (by decide +kernel), List.mem_of_getElem? (i := 495) (by decide +kernel)⟩
theorem lw_p15 : lw_okq (⟨"OnceCalls", "bucketAt", "(II)LOnceCalls$Bucket;"⟩, 9) := ⟨⟨by decide +kernel, by decide +kernel⟩, List.mem_of_getElem? (i := 12) (by decide +kernel), List.mem_of_getElem? (i := 518) (by decide +kernel), List.mem_of_getElem? (i := 519) (by decide +kernel)⟩
def lw_privs_1 : List (MethodName × Nat) := [(⟨"OnceCalls", "clientAt", "(I)LOnceCalls$Client;"⟩, 9), (⟨"OnceCalls", "isLive", "(II)Z"⟩, 9), (⟨"OnceCalls", "send", "(LOnceCalls$Letter;)V"⟩, 9), (⟨"OnceCalls", "serverAt", "(I)LOnceCalls$Server;"⟩, 9), (⟨"OnceCalls", "takeAnswer", "(LOnceCalls$Letter;)V"⟩, 9), (⟨"OnceCalls", "takeAtServer", "(LOnceCalls$Server;LOnceCalls$Letter;)V"⟩, 9), (⟨"OnceCalls", "takeRequest", "(LOnceCalls$Server;LOnceCalls$Letter;)V"⟩, 9), (⟨"OnceCalls", "answer", "(LOnceCalls$Server;LOnceCalls$Letter;IJ)V"⟩, 9), (⟨"OnceCalls", "sendFrom", "(LOnceCalls$Server;LOnceCalls$Letter;)V"⟩, 9), (⟨"OnceCalls", "takeOwnRequest", "(LOnceCalls$Server;LOnceCalls$Bucket;LOnceCalls$Letter;)V"⟩, 9), (⟨"OnceCalls$Bucket", "removeRecordsBelow", "(II)V"⟩, 11), (⟨"OnceCalls", "takeMove", "(LOnceCalls$Server;LOnceCalls$Letter;)V"⟩, 9), (⟨"OnceCalls", "takeTaken", "(LOnceCalls$Server;LOnceCalls$Letter;)V"⟩, 9), (⟨"OnceCalls", "takeAck", "(LOnceCalls$Server;LOnceCalls$Letter;)V"⟩, 9), (⟨"OnceCalls", "removeDeadRecords", "(LOnceCalls$Bucket;)I"⟩, 9), (⟨"OnceCalls", "bucketAt", "(II)LOnceCalls$Bucket;"⟩, 9)]
theorem lw_r1 : ∀ q ∈ lw_privs_1, lw_okq q := List.forall_mem_cons.mpr ⟨lw_p0, List.forall_mem_cons.mpr ⟨lw_p1, List.forall_mem_cons.mpr ⟨lw_p2, List.forall_mem_cons.mpr ⟨lw_p3, List.forall_mem_cons.mpr ⟨lw_p4, List.forall_mem_cons.mpr ⟨lw_p5, List.forall_mem_cons.mpr ⟨lw_p6, List.forall_mem_cons.mpr ⟨lw_p7, List.forall_mem_cons.mpr ⟨lw_p8, List.forall_mem_cons.mpr ⟨lw_p9, List.forall_mem_cons.mpr ⟨lw_p10, List.forall_mem_cons.mpr ⟨lw_p11, List.forall_mem_cons.mpr ⟨lw_p12, List.forall_mem_cons.mpr ⟨lw_p13, List.forall_mem_cons.mpr ⟨lw_p14, List.forall_mem_cons.mpr ⟨lw_p15, fun _ h => absurd h List.not_mem_nil⟩⟩⟩⟩⟩⟩⟩⟩⟩⟩⟩⟩⟩⟩⟩⟩
theorem lw_p16 : lw_okq (⟨"OnceCalls$Letter", "fourthPart", "()I"⟩, 15) := ⟨⟨by decide +kernel, by decide +kernel⟩, List.mem_of_getElem? (i := 248) (by decide +kernel), List.mem_of_getElem? (i := 555) (by decide +kernel), List.mem_of_getElem? (i := 556) (by decide +kernel)⟩
theorem lw_p17 : lw_okq (⟨"OnceCalls$Letter", "fifthPart", "()I"⟩, 15) := ⟨⟨by decide +kernel, by decide +kernel⟩, List.mem_of_getElem? (i := 248) (by decide +kernel), List.mem_of_getElem? (i := 559) (by decide +kernel), List.mem_of_getElem? (i := 560) (by decide +kernel)⟩
theorem lw_p18 : lw_okq (⟨"OnceCallsModel", "isLive", "(I)Z"⟩, 53) := ⟨⟨by decide +kernel, by decide +kernel⟩, List.mem_of_getElem? (i := 570) (by decide +kernel), List.mem_of_getElem? (i := 752) (by decide +kernel), List.mem_of_getElem? (i := 753) (by decide +kernel)⟩
theorem lw_p19 : lw_okq (⟨"OnceCallsModel", "waiting", "(I)I"⟩, 53) := ⟨⟨by decide +kernel, by decide +kernel⟩, List.mem_of_getElem? (i := 570) (by decide +kernel), List.mem_of_getElem? (i := 760) (by decide +kernel), List.mem_of_getElem? (i := 761) (by decide +kernel)⟩
theorem lw_p20 : lw_okq (⟨"OnceCallsModel", "request", "(II)V"⟩, 53) := ⟨⟨by decide +kernel, by decide +kernel⟩, List.mem_of_getElem? (i := 570) (by decide +kernel), List.mem_of_getElem? (i := 764) (by decide +kernel), List.mem_of_getElem? (i := 765) (by decide +kernel)⟩
theorem lw_p21 : lw_okq (⟨"OnceCallsModel", "letter", "(III)I"⟩, 53) := ⟨⟨by decide +kernel, by decide +kernel⟩, List.mem_of_getElem? (i := 570) (by decide +kernel), List.mem_of_getElem? (i := 768) (by decide +kernel), List.mem_of_getElem? (i := 769) (by decide +kernel)⟩
theorem lw_p22 : lw_okq (⟨"OnceCallsModel", "first", "(I)I"⟩, 53) := ⟨⟨by decide +kernel, by decide +kernel⟩, List.mem_of_getElem? (i := 570) (by decide +kernel), List.mem_of_getElem? (i := 772) (by decide +kernel), List.mem_of_getElem? (i := 773) (by decide +kernel)⟩
theorem lw_p23 : lw_okq (⟨"OnceCallsModel", "go", "(I)V"⟩, 53) := ⟨⟨by decide +kernel, by decide +kernel⟩, List.mem_of_getElem? (i := 570) (by decide +kernel), List.mem_of_getElem? (i := 776) (by decide +kernel), List.mem_of_getElem? (i := 777) (by decide +kernel)⟩
theorem lw_p24 : lw_okq (⟨"OnceCallsModel", "isCall", "(II)Z"⟩, 53) := ⟨⟨by decide +kernel, by decide +kernel⟩, List.mem_of_getElem? (i := 570) (by decide +kernel), List.mem_of_getElem? (i := 784) (by decide +kernel), List.mem_of_getElem? (i := 785) (by decide +kernel)⟩
theorem lw_p25 : lw_okq (⟨"OnceCallsModel", "isServer", "(I)Z"⟩, 53) := ⟨⟨by decide +kernel, by decide +kernel⟩, List.mem_of_getElem? (i := 570) (by decide +kernel), List.mem_of_getElem? (i := 792) (by decide +kernel), List.mem_of_getElem? (i := 793) (by decide +kernel)⟩
theorem lw_p26 : lw_okq (⟨"OnceCallsModel", "takeOut", "(I)I"⟩, 53) := ⟨⟨by decide +kernel, by decide +kernel⟩, List.mem_of_getElem? (i := 570) (by decide +kernel), List.mem_of_getElem? (i := 800) (by decide +kernel), List.mem_of_getElem? (i := 801) (by decide +kernel)⟩
theorem lw_p27 : lw_okq (⟨"OnceCallsModel", "asked", "(I)V"⟩, 53) := ⟨⟨by decide +kernel, by decide +kernel⟩, List.mem_of_getElem? (i := 570) (by decide +kernel), List.mem_of_getElem? (i := 804) (by decide +kernel), List.mem_of_getElem? (i := 805) (by decide +kernel)⟩
theorem lw_p28 : lw_okq (⟨"OnceCallsModel", "answer", "(IIIJ)V"⟩, 53) := ⟨⟨by decide +kernel, by decide +kernel⟩, List.mem_of_getElem? (i := 570) (by decide +kernel), List.mem_of_getElem? (i := 808) (by decide +kernel), List.mem_of_getElem? (i := 809) (by decide +kernel)⟩
theorem lw_p29 : lw_okq (⟨"OnceCallsModel", "sendFrom", "(II)V"⟩, 53) := ⟨⟨by decide +kernel, by decide +kernel⟩, List.mem_of_getElem? (i := 570) (by decide +kernel), List.mem_of_getElem? (i := 812) (by decide +kernel), List.mem_of_getElem? (i := 813) (by decide +kernel)⟩
theorem lw_p30 : lw_okq (⟨"OnceCallsModel", "know", "(IIIII)V"⟩, 53) := ⟨⟨by decide +kernel, by decide +kernel⟩, List.mem_of_getElem? (i := 570) (by decide +kernel), List.mem_of_getElem? (i := 816) (by decide +kernel), List.mem_of_getElem? (i := 817) (by decide +kernel)⟩
theorem lw_p31 : lw_okq (⟨"OnceCallsModel", "forget", "(II)V"⟩, 53) := ⟨⟨by decide +kernel, by decide +kernel⟩, List.mem_of_getElem? (i := 570) (by decide +kernel), List.mem_of_getElem? (i := 820) (by decide +kernel), List.mem_of_getElem? (i := 821) (by decide +kernel)⟩
def lw_privs_2 : List (MethodName × Nat) := [(⟨"OnceCalls$Letter", "fourthPart", "()I"⟩, 15), (⟨"OnceCalls$Letter", "fifthPart", "()I"⟩, 15), (⟨"OnceCallsModel", "isLive", "(I)Z"⟩, 53), (⟨"OnceCallsModel", "waiting", "(I)I"⟩, 53), (⟨"OnceCallsModel", "request", "(II)V"⟩, 53), (⟨"OnceCallsModel", "letter", "(III)I"⟩, 53), (⟨"OnceCallsModel", "first", "(I)I"⟩, 53), (⟨"OnceCallsModel", "go", "(I)V"⟩, 53), (⟨"OnceCallsModel", "isCall", "(II)Z"⟩, 53), (⟨"OnceCallsModel", "isServer", "(I)Z"⟩, 53), (⟨"OnceCallsModel", "takeOut", "(I)I"⟩, 53), (⟨"OnceCallsModel", "asked", "(I)V"⟩, 53), (⟨"OnceCallsModel", "answer", "(IIIJ)V"⟩, 53), (⟨"OnceCallsModel", "sendFrom", "(II)V"⟩, 53), (⟨"OnceCallsModel", "know", "(IIIII)V"⟩, 53), (⟨"OnceCallsModel", "forget", "(II)V"⟩, 53)]
theorem lw_r2 : ∀ q ∈ lw_privs_2, lw_okq q := List.forall_mem_cons.mpr ⟨lw_p16, List.forall_mem_cons.mpr ⟨lw_p17, List.forall_mem_cons.mpr ⟨lw_p18, List.forall_mem_cons.mpr ⟨lw_p19, List.forall_mem_cons.mpr ⟨lw_p20, List.forall_mem_cons.mpr ⟨lw_p21, List.forall_mem_cons.mpr ⟨lw_p22, List.forall_mem_cons.mpr ⟨lw_p23, List.forall_mem_cons.mpr ⟨lw_p24, List.forall_mem_cons.mpr ⟨lw_p25, List.forall_mem_cons.mpr ⟨lw_p26, List.forall_mem_cons.mpr ⟨lw_p27, List.forall_mem_cons.mpr ⟨lw_p28, List.forall_mem_cons.mpr ⟨lw_p29, List.forall_mem_cons.mpr ⟨lw_p30, List.forall_mem_cons.mpr ⟨lw_p31, fun _ h => absurd h List.not_mem_nil⟩⟩⟩⟩⟩⟩⟩⟩⟩⟩⟩⟩⟩⟩⟩⟩
theorem lw_p32 : lw_okq (⟨"OnceCallsModel", "effect", "(II)J"⟩, 53) := ⟨⟨by decide +kernel, by decide +kernel⟩, List.mem_of_getElem? (i := 570) (by decide +kernel), List.mem_of_getElem? (i := 824) (by decide +kernel), List.mem_of_getElem? (i := 825) (by decide +kernel)⟩
theorem lw_p33 : lw_okq (⟨"OnceCallsModel", "answered", "(I)V"⟩, 53) := ⟨⟨by decide +kernel, by decide +kernel⟩, List.mem_of_getElem? (i := 570) (by decide +kernel), List.mem_of_getElem? (i := 828) (by decide +kernel), List.mem_of_getElem? (i := 829) (by decide +kernel)⟩
theorem lw_p34 : lw_okq (⟨"OnceCallsModel", "moved", "(I)V"⟩, 53) := ⟨⟨by decide +kernel, by decide +kernel⟩, List.mem_of_getElem? (i := 570) (by decide +kernel), List.mem_of_getElem? (i := 832) (by decide +kernel), List.mem_of_getElem? (i := 833) (by decide +kernel)⟩
theorem lw_p35 : lw_okq (⟨"OnceCallsModel", "taken", "(I)V"⟩, 53) := ⟨⟨by decide +kernel, by decide +kernel⟩, List.mem_of_getElem? (i := 570) (by decide +kernel), List.mem_of_getElem? (i := 836) (by decide +kernel), List.mem_of_getElem? (i := 837) (by decide +kernel)⟩
theorem lw_p36 : lw_okq (⟨"OnceCallsModel", "copy", "(II)V"⟩, 53) := ⟨⟨by decide +kernel, by decide +kernel⟩, List.mem_of_getElem? (i := 570) (by decide +kernel), List.mem_of_getElem? (i := 852) (by decide +kernel), List.mem_of_getElem? (i := 853) (by decide +kernel)⟩
theorem lw_p37 : lw_okq (⟨"OnceCallsModel", "store", "(I)I"⟩, 53) := ⟨⟨by decide +kernel, by decide +kernel⟩, List.mem_of_getElem? (i := 570) (by decide +kernel), List.mem_of_getElem? (i := 884) (by decide +kernel), List.mem_of_getElem? (i := 885) (by decide +kernel)⟩
def lw_privs_3 : List (MethodName × Nat) := [(⟨"OnceCallsModel", "effect", "(II)J"⟩, 53), (⟨"OnceCallsModel", "answered", "(I)V"⟩, 53), (⟨"OnceCallsModel", "moved", "(I)V"⟩, 53), (⟨"OnceCallsModel", "taken", "(I)V"⟩, 53), (⟨"OnceCallsModel", "copy", "(II)V"⟩, 53), (⟨"OnceCallsModel", "store", "(I)I"⟩, 53)]
theorem lw_r3 : ∀ q ∈ lw_privs_3, lw_okq q := List.forall_mem_cons.mpr ⟨lw_p32, List.forall_mem_cons.mpr ⟨lw_p33, List.forall_mem_cons.mpr ⟨lw_p34, List.forall_mem_cons.mpr ⟨lw_p35, List.forall_mem_cons.mpr ⟨lw_p36, List.forall_mem_cons.mpr ⟨lw_p37, fun _ h => absurd h List.not_mem_nil⟩⟩⟩⟩⟩⟩
def lw_privs : List (MethodName × Nat) := lw_privs_1 ++ (lw_privs_2 ++ (lw_privs_3))
def lw_tbl : List Cond := k2_sels lw_privs ++ tables_1
theorem lw_privs_ok : ∀ q ∈ lw_privs, lw_okq q := by
  show ∀ q ∈ lw_privs_1 ++ (lw_privs_2 ++ (lw_privs_3)), lw_okq q
  exact List.forall_mem_append.mpr ⟨lw_r1, List.forall_mem_append.mpr ⟨lw_r2, lw_r3⟩⟩
end
section
/-! ===== BEGIN words of one list among another's, by their places ===== -/
theorem goodIn_r {big : List Cond} (ws : List Cond) (ps : List Nat) (hp : ws = ps.filterMap (fun i => big[i]?)) (h : ws.all goodWord = true) : GoodIn big ws := by
  intro w hw
  have h1 := List.all_eq_true.mp h w hw
  rw [hp] at hw
  obtain ⟨i, -, hi⟩ := List.mem_filterMap.mp hw
  have hm : w ∈ big := by first | exact List.mem_of_getElem? hi | exact List.getElem?_mem hi
  exact ⟨hm, good_of_word h1⟩
theorem goodIn_app {big a b : List Cond} (ha : GoodIn big a) (hb : GoodIn big b) : GoodIn big (a ++ b) := fun w h => (List.mem_append.mp h).elim (ha w) (hb w)
theorem goodIn_ca {big a b : List Cond} {c : Cond} (ha : GoodIn big (c :: a)) (hb : GoodIn big b) : GoodIn big (c :: (a ++ b)) := fun w h => (List.mem_cons.mp h).elim (fun e => ha w (List.mem_cons.mpr (Or.inl e))) (fun h => (List.mem_append.mp h).elim (fun h => ha w (List.mem_cons.mpr (Or.inr h))) (hb w))
theorem goodIn_sub {big ws : List Cond} (hm : ∀ w ∈ ws, w ∈ big) (h : ws.all goodWord = true) : GoodIn big ws := fun w hw => ⟨hm w hw, good_of_word (List.all_eq_true.mp h w hw)⟩
/-! ===== END ===== -/
/-! ===== BEGIN printed: names, fields, word lists, decode rows ===== -/
def RX0 : String := "OnceCalls$Bucket"
def TX0 : u_T := fun k => match k with
  | 0 => ("OnceCalls$Bucket", "status", "I", false)
  | 1 => ("OnceCalls$Bucket", "version", "I", false)
  | 2 => ("OnceCalls$Bucket", "hint", "I", false)
  | 3 => ("OnceCalls$Bucket", "records", "I", false)
  | 4 => ("OnceCalls$Bucket", "values", "[J", true)
  | 5 => ("OnceCalls$Bucket", "recordClients", "[I", true)
  | 6 => ("OnceCalls$Bucket", "recordIncarnations", "[I", true)
  | 7 => ("OnceCalls$Bucket", "recordNumbers", "[I", true)
  | 8 => ("OnceCalls$Bucket", "recordResults", "[J", true)
  | 9 => ("OnceCalls$Bucket", "incarnations", "[I", true)
  | _ => ("OnceCalls$Bucket", "firsts", "[I", true)
def tyX0 : Nat → FieldType := fun k => match k with
  | 0 => .int
  | 1 => .int
  | 2 => .int
  | 3 => .int
  | 4 => .array .long
  | 5 => .array .int
  | 6 => .array .int
  | 7 => .array .int
  | 8 => .array .long
  | 9 => .array .int
  | _ => .array .int
abbrev wsX00 : List Cond := u_ws RX0 TX0 11
theorem nmX0 : ∀ a, a < 11 → ∀ b, b < 11 → a ≠ b → (TX0 a).2.1 ≠ (TX0 b).2.1 := by decide +kernel
theorem tyX0_ok : ∀ k, k < 11 → parseFieldDescriptor (TX0 k).2.2.1 = some (tyX0 k) := by decide +kernel
abbrev cX0_init : ByteArray := prog_2_method_1_code
def yX0_init : MethodName := ⟨RX0, "<init>", "()V"⟩
abbrev cX0_copyFrom : ByteArray := prog_2_method_2_code
def yX0_copyFrom : MethodName := ⟨RX0, "copyFrom", "(LOnceCalls$Bucket;)V"⟩
abbrev cX0_empty : ByteArray := prog_2_method_3_code
def yX0_empty : MethodName := ⟨RX0, "empty", "()V"⟩
abbrev cX0_canLeaveFor : ByteArray := prog_2_method_4_code
def yX0_canLeaveFor : MethodName := ⟨RX0, "canLeaveFor", "(I)Z"⟩
abbrev cX0_firstOf : ByteArray := prog_2_method_5_code
def yX0_firstOf : MethodName := ⟨RX0, "firstOf", "(I)I"⟩
abbrev cX0_know : ByteArray := prog_2_method_6_code
def yX0_know : MethodName := ⟨RX0, "know", "(LOnceCalls$Letter;)Z"⟩
abbrev cX0_removeRecordsBelow : ByteArray := prog_2_method_7_code
def yX0_removeRecordsBelow : MethodName := ⟨RX0, "removeRecordsBelow", "(II)V"⟩
abbrev cX0_removeRecord : ByteArray := prog_2_method_8_code
def yX0_removeRecord : MethodName := ⟨RX0, "removeRecord", "(I)V"⟩
abbrev cX0_find : ByteArray := prog_2_method_9_code
def yX0_find : MethodName := ⟨RX0, "find", "(LOnceCalls$Letter;)I"⟩
abbrev cX0_addRecord : ByteArray := prog_2_method_10_code
def yX0_addRecord : MethodName := ⟨RX0, "addRecord", "(LOnceCalls$Letter;J)V"⟩
abbrev cX0_doAct : ByteArray := prog_2_method_11_code
def yX0_doAct : MethodName := ⟨RX0, "doAct", "(LOnceCalls$Letter;)J"⟩
def RX1 : String := "OnceCalls$Client"
def TX1 : u_T := fun k => match k with
  | 0 => ("OnceCalls$Client", "index", "I", true)
  | 1 => ("OnceCalls$Client", "incarnation", "I", false)
  | 2 => ("OnceCalls$Client", "leaseEnd", "I", false)
  | 3 => ("OnceCalls$Client", "calls", "I", false)
  | 4 => ("OnceCalls$Client", "guesses", "[I", true)
  | 5 => ("OnceCalls$Client", "keys", "[I", true)
  | 6 => ("OnceCalls$Client", "acts", "[I", true)
  | 7 => ("OnceCalls$Client", "as", "[J", true)
  | 8 => ("OnceCalls$Client", "bs", "[J", true)
  | 9 => ("OnceCalls$Client", "states", "[I", true)
  | _ => ("OnceCalls$Client", "results", "[J", true)
def tyX1 : Nat → FieldType := fun k => match k with
  | 0 => .int
  | 1 => .int
  | 2 => .int
  | 3 => .int
  | 4 => .array .int
  | 5 => .array .int
  | 6 => .array .int
  | 7 => .array .long
  | 8 => .array .long
  | 9 => .array .int
  | _ => .array .long
abbrev wsX10 : List Cond := u_ws RX1 TX1 11
theorem nmX1 : ∀ a, a < 11 → ∀ b, b < 11 → a ≠ b → (TX1 a).2.1 ≠ (TX1 b).2.1 := by decide +kernel
theorem tyX1_ok : ∀ k, k < 11 → parseFieldDescriptor (TX1 k).2.2.1 = some (tyX1 k) := by decide +kernel
abbrev cX1_init : ByteArray := prog_3_method_1_code
def yX1_init : MethodName := ⟨RX1, "<init>", "(II)V"⟩
abbrev cX1_hasCall : ByteArray := prog_3_method_2_code
def yX1_hasCall : MethodName := ⟨RX1, "hasCall", "(I)Z"⟩
abbrev cX1_newCall : ByteArray := prog_3_method_3_code
def yX1_newCall : MethodName := ⟨RX1, "newCall", "(IIJJ)I"⟩
abbrev cX1_first : ByteArray := prog_3_method_4_code
def yX1_first : MethodName := ⟨RX1, "first", "()I"⟩
abbrev cX1_waiting : ByteArray := prog_3_method_5_code
def yX1_waiting : MethodName := ⟨RX1, "waiting", "()I"⟩
abbrev cX1_refuseWaiting : ByteArray := prog_3_method_6_code
def yX1_refuseWaiting : MethodName := ⟨RX1, "refuseWaiting", "()V"⟩
def RX2 : String := "OnceCalls$Letter"
def TX2 : u_T := fun k => match k with
  | 0 => ("OnceCalls$Letter", "kind", "I", true)
  | 1 => ("OnceCalls$Letter", "to", "I", true)
  | 2 => ("OnceCalls$Letter", "from", "I", true)
  | 3 => ("OnceCalls$Letter", "incarnation", "I", false)
  | 4 => ("OnceCalls$Letter", "version", "I", false)
  | 5 => ("OnceCalls$Letter", "number", "I", false)
  | 6 => ("OnceCalls$Letter", "first", "I", false)
  | 7 => ("OnceCalls$Letter", "bucket", "I", false)
  | 8 => ("OnceCalls$Letter", "code", "I", false)
  | 9 => ("OnceCalls$Letter", "key", "I", false)
  | 10 => ("OnceCalls$Letter", "act", "I", false)
  | 11 => ("OnceCalls$Letter", "a", "J", false)
  | 12 => ("OnceCalls$Letter", "b", "J", false)
  | 13 => ("OnceCalls$Letter", "result", "J", false)
  | _ => ("OnceCalls$Letter", "load", "LOnceCalls$Bucket;", false)
def tyX2 : Nat → FieldType := fun k => match k with
  | 0 => .int
  | 1 => .int
  | 2 => .int
  | 3 => .int
  | 4 => .int
  | 5 => .int
  | 6 => .int
  | 7 => .int
  | 8 => .int
  | 9 => .int
  | 10 => .int
  | 11 => .long
  | 12 => .long
  | 13 => .long
  | _ => .object "OnceCalls$Bucket"
abbrev wsX20 : List Cond := u_ws RX2 TX2 15
theorem nmX2 : ∀ a, a < 15 → ∀ b, b < 15 → a ≠ b → (TX2 a).2.1 ≠ (TX2 b).2.1 := by decide +kernel
theorem tyX2_ok : ∀ k, k < 15 → parseFieldDescriptor (TX2 k).2.2.1 = some (tyX2 k) := by decide +kernel
abbrev cX2_init : ByteArray := prog_4_method_1_code
def yX2_init : MethodName := ⟨RX2, "<init>", "(III)V"⟩
abbrev cX2_isBetweenServers : ByteArray := prog_4_method_2_code
def yX2_isBetweenServers : MethodName := ⟨RX2, "isBetweenServers", "()Z"⟩
abbrev cX2_part : ByteArray := prog_4_method_3_code
def yX2_part : MethodName := ⟨RX2, "part", "(I)I"⟩
abbrev cX2_fourthPart : ByteArray := prog_4_method_4_code
def yX2_fourthPart : MethodName := ⟨RX2, "fourthPart", "()I"⟩
abbrev cX2_fifthPart : ByteArray := prog_4_method_5_code
def yX2_fifthPart : MethodName := ⟨RX2, "fifthPart", "()I"⟩
def RX3 : String := "OnceCalls$Row"
def TX3 : u_T := fun k => match k with
  | 0 => ("OnceCalls$Row", "letters", "[LOnceCalls$Letter;", true)
  | _ => ("OnceCalls$Row", "size", "I", false)
def tyX3 : Nat → FieldType := fun k => match k with
  | 0 => .array (.object "OnceCalls$Letter")
  | _ => .int
abbrev wsX30 : List Cond := u_ws RX3 TX3 2
theorem nmX3 : ∀ a, a < 2 → ∀ b, b < 2 → a ≠ b → (TX3 a).2.1 ≠ (TX3 b).2.1 := by decide +kernel
theorem tyX3_ok : ∀ k, k < 2 → parseFieldDescriptor (TX3 k).2.2.1 = some (tyX3 k) := by decide +kernel
abbrev cX3_init : ByteArray := prog_5_method_1_code
def yX3_init : MethodName := ⟨RX3, "<init>", "(I)V"⟩
abbrev cX3_at : ByteArray := prog_5_method_2_code
def yX3_at : MethodName := ⟨RX3, "at", "(I)LOnceCalls$Letter;"⟩
abbrev cX3_append : ByteArray := prog_5_method_3_code
def yX3_append : MethodName := ⟨RX3, "append", "(LOnceCalls$Letter;)Z"⟩
abbrev cX3_removeAt : ByteArray := prog_5_method_4_code
def yX3_removeAt : MethodName := ⟨RX3, "removeAt", "(I)V"⟩
abbrev cX3_clear : ByteArray := prog_5_method_5_code
def yX3_clear : MethodName := ⟨RX3, "clear", "()V"⟩
def RX4 : String := "OnceCalls$Server"
def TX4 : u_T := fun k => match k with
  | 0 => ("OnceCalls$Server", "index", "I", true)
  | 1 => ("OnceCalls$Server", "held", "LOnceCalls$Row;", true)
  | 2 => ("OnceCalls$Server", "memory", "[LOnceCalls$Bucket;", true)
  | 3 => ("OnceCalls$Server", "kept", "[LOnceCalls$Bucket;", true)
  | 4 => ("OnceCalls$Server", "up", "Z", false)
  | _ => ("OnceCalls$Server", "clean", "Z", false)
def tyX4 : Nat → FieldType := fun k => match k with
  | 0 => .int
  | 1 => .object "OnceCalls$Row"
  | 2 => .array (.object "OnceCalls$Bucket")
  | 3 => .array (.object "OnceCalls$Bucket")
  | 4 => .boolean
  | _ => .boolean
abbrev wsX40 : List Cond := u_ws RX4 TX4 6
theorem nmX4 : ∀ a, a < 6 → ∀ b, b < 6 → a ≠ b → (TX4 a).2.1 ≠ (TX4 b).2.1 := by decide +kernel
theorem tyX4_ok : ∀ k, k < 6 → parseFieldDescriptor (TX4 k).2.2.1 = some (tyX4 k) := by decide +kernel
abbrev cX4_init : ByteArray := prog_6_method_1_code
def yX4_init : MethodName := ⟨RX4, "<init>", "(II)V"⟩
abbrev cX4_bucketAt : ByteArray := prog_6_method_2_code
def yX4_bucketAt : MethodName := ⟨RX4, "bucketAt", "(I)LOnceCalls$Bucket;"⟩
abbrev cX4_keep : ByteArray := prog_6_method_3_code
def yX4_keep : MethodName := ⟨RX4, "keep", "()V"⟩
abbrev cX4_restore : ByteArray := prog_6_method_4_code
def yX4_restore : MethodName := ⟨RX4, "restore", "()V"⟩
abbrev cX4_recordsInAll : ByteArray := prog_6_method_5_code
def yX4_recordsInAll : MethodName := ⟨RX4, "recordsInAll", "()I"⟩
def RX5 : String := "OnceCalls"
def TX5 : u_T := fun k => match k with
  | 0 => ("OnceCalls", "servers", "[LOnceCalls$Server;", true)
  | 1 => ("OnceCalls", "clients", "[LOnceCalls$Client;", true)
  | 2 => ("OnceCalls", "row", "LOnceCalls$Row;", true)
  | 3 => ("OnceCalls", "lease", "I", true)
  | 4 => ("OnceCalls", "time", "I", false)
  | 5 => ("OnceCalls", "incarnations", "I", false)
  | 6 => ("OnceCalls", "lost", "I", false)
  | 7 => ("OnceCalls", "effects", "I", false)
  | _ => ("OnceCalls", "done", "I", false)
def tyX5 : Nat → FieldType := fun k => match k with
  | 0 => .array (.object "OnceCalls$Server")
  | 1 => .array (.object "OnceCalls$Client")
  | 2 => .object "OnceCalls$Row"
  | 3 => .int
  | 4 => .int
  | 5 => .int
  | 6 => .int
  | 7 => .int
  | _ => .int
abbrev wsX50 : List Cond := u_ws RX5 TX5 9
theorem nmX5 : ∀ a, a < 9 → ∀ b, b < 9 → a ≠ b → (TX5 a).2.1 ≠ (TX5 b).2.1 := by decide +kernel
theorem tyX5_ok : ∀ k, k < 9 → parseFieldDescriptor (TX5 k).2.2.1 = some (tyX5 k) := by decide +kernel
abbrev cX5_init : ByteArray := prog_1_method_1_code
def yX5_init : MethodName := ⟨RX5, "<init>", "(II)V"⟩
abbrev cX5_open : ByteArray := prog_1_method_2_code
def yX5_open : MethodName := ⟨RX5, "open", "(I)I"⟩
abbrev cX5_renew : ByteArray := prog_1_method_3_code
def yX5_renew : MethodName := ⟨RX5, "renew", "(I)I"⟩
abbrev cX5_call : ByteArray := prog_1_method_4_code
def yX5_call : MethodName := ⟨RX5, "call", "(IIIJJ)I"⟩
abbrev cX5_retry : ByteArray := prog_1_method_5_code
def yX5_retry : MethodName := ⟨RX5, "retry", "(II)I"⟩
abbrev cX5_ack : ByteArray := prog_1_method_6_code
def yX5_ack : MethodName := ⟨RX5, "ack", "(II)I"⟩
abbrev cX5_deliver : ByteArray := prog_1_method_7_code
def yX5_deliver : MethodName := ⟨RX5, "deliver", "(I)I"⟩
abbrev cX5_drop : ByteArray := prog_1_method_8_code
def yX5_drop : MethodName := ⟨RX5, "drop", "(I)I"⟩
abbrev cX5_twin : ByteArray := prog_1_method_9_code
def yX5_twin : MethodName := ⟨RX5, "twin", "(I)I"⟩
abbrev cX5_sync : ByteArray := prog_1_method_10_code
def yX5_sync : MethodName := ⟨RX5, "sync", "(I)I"⟩
abbrev cX5_crash : ByteArray := prog_1_method_11_code
def yX5_crash : MethodName := ⟨RX5, "crash", "(I)I"⟩
abbrev cX5_start : ByteArray := prog_1_method_12_code
def yX5_start : MethodName := ⟨RX5, "start", "(I)I"⟩
abbrev cX5_move : ByteArray := prog_1_method_13_code
def yX5_move : MethodName := ⟨RX5, "move", "(III)I"⟩
abbrev cX5_collect : ByteArray := prog_1_method_14_code
def yX5_collect : MethodName := ⟨RX5, "collect", "(I)I"⟩
abbrev cX5_ticks : ByteArray := prog_1_method_15_code
def yX5_ticks : MethodName := ⟨RX5, "ticks", "(I)I"⟩
abbrev cX5_server : ByteArray := prog_1_method_16_code
def yX5_server : MethodName := ⟨RX5, "server", "(II)I"⟩
abbrev cX5_bucket : ByteArray := prog_1_method_17_code
def yX5_bucket : MethodName := ⟨RX5, "bucket", "(III)I"⟩
abbrev cX5_value : ByteArray := prog_1_method_18_code
def yX5_value : MethodName := ⟨RX5, "value", "(II)J"⟩
abbrev cX5_record : ByteArray := prog_1_method_19_code
def yX5_record : MethodName := ⟨RX5, "record", "(IIII)I"⟩
abbrev cX5_client : ByteArray := prog_1_method_20_code
def yX5_client : MethodName := ⟨RX5, "client", "(II)I"⟩
abbrev cX5_state : ByteArray := prog_1_method_21_code
def yX5_state : MethodName := ⟨RX5, "state", "(II)I"⟩
abbrev cX5_result : ByteArray := prog_1_method_22_code
def yX5_result : MethodName := ⟨RX5, "result", "(II)J"⟩
abbrev cX5_letter : ByteArray := prog_1_method_23_code
def yX5_letter : MethodName := ⟨RX5, "letter", "(II)I"⟩
abbrev cX5_count : ByteArray := prog_1_method_24_code
def yX5_count : MethodName := ⟨RX5, "count", "(I)I"⟩
abbrev cX5_clientAt : ByteArray := prog_1_method_25_code
def yX5_clientAt : MethodName := ⟨RX5, "clientAt", "(I)LOnceCalls$Client;"⟩
abbrev cX5_serverAt : ByteArray := prog_1_method_26_code
def yX5_serverAt : MethodName := ⟨RX5, "serverAt", "(I)LOnceCalls$Server;"⟩
abbrev cX5_bucketAt : ByteArray := prog_1_method_27_code
def yX5_bucketAt : MethodName := ⟨RX5, "bucketAt", "(II)LOnceCalls$Bucket;"⟩
abbrev cX5_isLive : ByteArray := prog_1_method_28_code
def yX5_isLive : MethodName := ⟨RX5, "isLive", "(II)Z"⟩
abbrev cX5_send : ByteArray := prog_1_method_29_code
def yX5_send : MethodName := ⟨RX5, "send", "(LOnceCalls$Letter;)V"⟩
abbrev cX5_sendFrom : ByteArray := prog_1_method_30_code
def yX5_sendFrom : MethodName := ⟨RX5, "sendFrom", "(LOnceCalls$Server;LOnceCalls$Letter;)V"⟩
abbrev cX5_takeAnswer : ByteArray := prog_1_method_31_code
def yX5_takeAnswer : MethodName := ⟨RX5, "takeAnswer", "(LOnceCalls$Letter;)V"⟩
abbrev cX5_takeAtServer : ByteArray := prog_1_method_32_code
def yX5_takeAtServer : MethodName := ⟨RX5, "takeAtServer", "(LOnceCalls$Server;LOnceCalls$Letter;)V"⟩
abbrev cX5_takeRequest : ByteArray := prog_1_method_33_code
def yX5_takeRequest : MethodName := ⟨RX5, "takeRequest", "(LOnceCalls$Server;LOnceCalls$Letter;)V"⟩
abbrev cX5_takeOwnRequest : ByteArray := prog_1_method_34_code
def yX5_takeOwnRequest : MethodName := ⟨RX5, "takeOwnRequest", "(LOnceCalls$Server;LOnceCalls$Bucket;LOnceCalls$Letter;)V"⟩
abbrev cX5_answer : ByteArray := prog_1_method_35_code
def yX5_answer : MethodName := ⟨RX5, "answer", "(LOnceCalls$Server;LOnceCalls$Letter;IJ)V"⟩
abbrev cX5_takeMove : ByteArray := prog_1_method_36_code
def yX5_takeMove : MethodName := ⟨RX5, "takeMove", "(LOnceCalls$Server;LOnceCalls$Letter;)V"⟩
abbrev cX5_takeTaken : ByteArray := prog_1_method_37_code
def yX5_takeTaken : MethodName := ⟨RX5, "takeTaken", "(LOnceCalls$Server;LOnceCalls$Letter;)V"⟩
abbrev cX5_takeAck : ByteArray := prog_1_method_38_code
def yX5_takeAck : MethodName := ⟨RX5, "takeAck", "(LOnceCalls$Server;LOnceCalls$Letter;)V"⟩
abbrev cX5_removeDeadRecords : ByteArray := prog_1_method_39_code
def yX5_removeDeadRecords : MethodName := ⟨RX5, "removeDeadRecords", "(LOnceCalls$Bucket;)I"⟩
abbrev cX5_requestOf : ByteArray := prog_1_method_40_code
def yX5_requestOf : MethodName := ⟨RX5, "requestOf", "(LOnceCalls$Client;I)LOnceCalls$Letter;"⟩
abbrev cX5_bucketOf : ByteArray := prog_1_method_41_code
def yX5_bucketOf : MethodName := ⟨RX5, "bucketOf", "(I)I"⟩
abbrev cX5_placeOf : ByteArray := prog_1_method_42_code
def yX5_placeOf : MethodName := ⟨RX5, "placeOf", "(I)I"⟩
abbrev cX5_oneIf : ByteArray := prog_1_method_43_code
def yX5_oneIf : MethodName := ⟨RX5, "oneIf", "(Z)I"⟩
def RX6 : String := "OnceCallsModel"
def TX6 : u_T := fun k => match k with
  | 0 => ("OnceCallsModel", "servers", "I", true)
  | 1 => ("OnceCallsModel", "lease", "I", true)
  | 2 => ("OnceCallsModel", "time", "I", false)
  | 3 => ("OnceCallsModel", "lost", "I", false)
  | 4 => ("OnceCallsModel", "effects", "I", false)
  | 5 => ("OnceCallsModel", "done", "I", false)
  | 6 => ("OnceCallsModel", "opened", "I", false)
  | 7 => ("OnceCallsModel", "incarnation", "[I", true)
  | 8 => ("OnceCallsModel", "ends", "[I", true)
  | 9 => ("OnceCallsModel", "calls", "[I", true)
  | 10 => ("OnceCallsModel", "guess", "[I", true)
  | 11 => ("OnceCallsModel", "state", "[I", true)
  | 12 => ("OnceCallsModel", "result", "[J", true)
  | 13 => ("OnceCallsModel", "keys", "[I", true)
  | 14 => ("OnceCallsModel", "acts", "[I", true)
  | 15 => ("OnceCallsModel", "firstOf", "[J", true)
  | 16 => ("OnceCallsModel", "secondOf", "[J", true)
  | 17 => ("OnceCallsModel", "status", "[I", true)
  | 18 => ("OnceCallsModel", "version", "[I", true)
  | 19 => ("OnceCallsModel", "hint", "[I", true)
  | 20 => ("OnceCallsModel", "values", "[J", true)
  | 21 => ("OnceCallsModel", "size", "[I", true)
  | 22 => ("OnceCallsModel", "recordClient", "[I", true)
  | 23 => ("OnceCallsModel", "recordIncarnation", "[I", true)
  | 24 => ("OnceCallsModel", "recordNumber", "[I", true)
  | 25 => ("OnceCallsModel", "recordResult", "[J", true)
  | 26 => ("OnceCallsModel", "known", "[I", true)
  | 27 => ("OnceCallsModel", "knownFirst", "[I", true)
  | 28 => ("OnceCallsModel", "up", "[Z", true)
  | 29 => ("OnceCallsModel", "dirty", "[Z", true)
  | 30 => ("OnceCallsModel", "used", "[Z", true)
  | 31 => ("OnceCallsModel", "kind", "[I", true)
  | 32 => ("OnceCallsModel", "to", "[I", true)
  | 33 => ("OnceCallsModel", "from", "[I", true)
  | 34 => ("OnceCallsModel", "nr", "[I", true)
  | 35 => ("OnceCallsModel", "number", "[I", true)
  | 36 => ("OnceCallsModel", "info", "[I", true)
  | 37 => ("OnceCallsModel", "key", "[I", true)
  | 38 => ("OnceCallsModel", "act", "[I", true)
  | 39 => ("OnceCallsModel", "a", "[J", true)
  | 40 => ("OnceCallsModel", "b", "[J", true)
  | 41 => ("OnceCallsModel", "movedValues", "[J", true)
  | 42 => ("OnceCallsModel", "movedClient", "[I", true)
  | 43 => ("OnceCallsModel", "movedIncarnation", "[I", true)
  | 44 => ("OnceCallsModel", "movedNumber", "[I", true)
  | 45 => ("OnceCallsModel", "movedResult", "[J", true)
  | 46 => ("OnceCallsModel", "movedKnown", "[I", true)
  | 47 => ("OnceCallsModel", "movedFirst", "[I", true)
  | 48 => ("OnceCallsModel", "free", "I", false)
  | 49 => ("OnceCallsModel", "row", "[I", true)
  | 50 => ("OnceCallsModel", "letters", "I", false)
  | 51 => ("OnceCallsModel", "held", "[I", true)
  | _ => ("OnceCallsModel", "heldMany", "[I", true)
def tyX6 : Nat → FieldType := fun k => match k with
  | 0 => .int
  | 1 => .int
  | 2 => .int
  | 3 => .int
  | 4 => .int
  | 5 => .int
  | 6 => .int
  | 7 => .array .int
  | 8 => .array .int
  | 9 => .array .int
  | 10 => .array .int
  | 11 => .array .int
  | 12 => .array .long
  | 13 => .array .int
  | 14 => .array .int
  | 15 => .array .long
  | 16 => .array .long
  | 17 => .array .int
  | 18 => .array .int
  | 19 => .array .int
  | 20 => .array .long
  | 21 => .array .int
  | 22 => .array .int
  | 23 => .array .int
  | 24 => .array .int
  | 25 => .array .long
  | 26 => .array .int
  | 27 => .array .int
  | 28 => .array .boolean
  | 29 => .array .boolean
  | 30 => .array .boolean
  | 31 => .array .int
  | 32 => .array .int
  | 33 => .array .int
  | 34 => .array .int
  | 35 => .array .int
  | 36 => .array .int
  | 37 => .array .int
  | 38 => .array .int
  | 39 => .array .long
  | 40 => .array .long
  | 41 => .array .long
  | 42 => .array .int
  | 43 => .array .int
  | 44 => .array .int
  | 45 => .array .long
  | 46 => .array .int
  | 47 => .array .int
  | 48 => .int
  | 49 => .array .int
  | 50 => .int
  | 51 => .array .int
  | _ => .array .int
abbrev wsX60 : List Cond := u_ws RX6 TX6 53
theorem nmX6 : ∀ a, a < 53 → ∀ b, b < 53 → a ≠ b → (TX6 a).2.1 ≠ (TX6 b).2.1 := by decide +kernel
theorem tyX6_ok : ∀ k, k < 53 → parseFieldDescriptor (TX6 k).2.2.1 = some (tyX6 k) := by decide +kernel
abbrev cX6_init : ByteArray := prog_8_method_1_code
def yX6_init : MethodName := ⟨RX6, "<init>", "(II)V"⟩
abbrev cX6_in : ByteArray := prog_8_method_3_code
def yX6_in : MethodName := ⟨RX6, "in", "(III)Z"⟩
abbrev cX6_isClient : ByteArray := prog_8_method_4_code
def yX6_isClient : MethodName := ⟨RX6, "isClient", "(I)Z"⟩
abbrev cX6_isServer : ByteArray := prog_8_method_5_code
def yX6_isServer : MethodName := ⟨RX6, "isServer", "(I)Z"⟩
abbrev cX6_isLive : ByteArray := prog_8_method_6_code
def yX6_isLive : MethodName := ⟨RX6, "isLive", "(I)Z"⟩
abbrev cX6_first : ByteArray := prog_8_method_7_code
def yX6_first : MethodName := ⟨RX6, "first", "(I)I"⟩
abbrev cX6_letter : ByteArray := prog_8_method_8_code
def yX6_letter : MethodName := ⟨RX6, "letter", "(III)I"⟩
abbrev cX6_go : ByteArray := prog_8_method_9_code
def yX6_go : MethodName := ⟨RX6, "go", "(I)V"⟩
abbrev cX6_sendFrom : ByteArray := prog_8_method_10_code
def yX6_sendFrom : MethodName := ⟨RX6, "sendFrom", "(II)V"⟩
abbrev cX6_takeOut : ByteArray := prog_8_method_11_code
def yX6_takeOut : MethodName := ⟨RX6, "takeOut", "(I)I"⟩
abbrev cX6_open : ByteArray := prog_8_method_12_code
def yX6_open : MethodName := ⟨RX6, "open", "(I)I"⟩
abbrev cX6_renew : ByteArray := prog_8_method_13_code
def yX6_renew : MethodName := ⟨RX6, "renew", "(I)I"⟩
abbrev cX6_waiting : ByteArray := prog_8_method_14_code
def yX6_waiting : MethodName := ⟨RX6, "waiting", "(I)I"⟩
abbrev cX6_request : ByteArray := prog_8_method_15_code
def yX6_request : MethodName := ⟨RX6, "request", "(II)V"⟩
abbrev cX6_call : ByteArray := prog_8_method_16_code
def yX6_call : MethodName := ⟨RX6, "call", "(IIIJJ)I"⟩
abbrev cX6_isCall : ByteArray := prog_8_method_17_code
def yX6_isCall : MethodName := ⟨RX6, "isCall", "(II)Z"⟩
abbrev cX6_retry : ByteArray := prog_8_method_18_code
def yX6_retry : MethodName := ⟨RX6, "retry", "(II)I"⟩
abbrev cX6_ack : ByteArray := prog_8_method_19_code
def yX6_ack : MethodName := ⟨RX6, "ack", "(II)I"⟩
abbrev cX6_answered : ByteArray := prog_8_method_20_code
def yX6_answered : MethodName := ⟨RX6, "answered", "(I)V"⟩
abbrev cX6_forget : ByteArray := prog_8_method_21_code
def yX6_forget : MethodName := ⟨RX6, "forget", "(II)V"⟩
abbrev cX6_know : ByteArray := prog_8_method_22_code
def yX6_know : MethodName := ⟨RX6, "know", "(IIIII)V"⟩
abbrev cX6_answer : ByteArray := prog_8_method_23_code
def yX6_answer : MethodName := ⟨RX6, "answer", "(IIIJ)V"⟩
abbrev cX6_asked : ByteArray := prog_8_method_24_code
def yX6_asked : MethodName := ⟨RX6, "asked", "(I)V"⟩
abbrev cX6_effect : ByteArray := prog_8_method_25_code
def yX6_effect : MethodName := ⟨RX6, "effect", "(II)J"⟩
abbrev cX6_moved : ByteArray := prog_8_method_26_code
def yX6_moved : MethodName := ⟨RX6, "moved", "(I)V"⟩
abbrev cX6_taken : ByteArray := prog_8_method_27_code
def yX6_taken : MethodName := ⟨RX6, "taken", "(I)V"⟩
abbrev cX6_deliver : ByteArray := prog_8_method_28_code
def yX6_deliver : MethodName := ⟨RX6, "deliver", "(I)I"⟩
abbrev cX6_drop : ByteArray := prog_8_method_29_code
def yX6_drop : MethodName := ⟨RX6, "drop", "(I)I"⟩
abbrev cX6_twin : ByteArray := prog_8_method_30_code
def yX6_twin : MethodName := ⟨RX6, "twin", "(I)I"⟩
abbrev cX6_copy : ByteArray := prog_8_method_31_code
def yX6_copy : MethodName := ⟨RX6, "copy", "(II)V"⟩
abbrev cX6_sync : ByteArray := prog_8_method_32_code
def yX6_sync : MethodName := ⟨RX6, "sync", "(I)I"⟩
abbrev cX6_crash : ByteArray := prog_8_method_33_code
def yX6_crash : MethodName := ⟨RX6, "crash", "(I)I"⟩
abbrev cX6_start : ByteArray := prog_8_method_34_code
def yX6_start : MethodName := ⟨RX6, "start", "(I)I"⟩
abbrev cX6_move : ByteArray := prog_8_method_35_code
def yX6_move : MethodName := ⟨RX6, "move", "(III)I"⟩
abbrev cX6_collect : ByteArray := prog_8_method_36_code
def yX6_collect : MethodName := ⟨RX6, "collect", "(I)I"⟩
abbrev cX6_ticks : ByteArray := prog_8_method_37_code
def yX6_ticks : MethodName := ⟨RX6, "ticks", "(I)I"⟩
abbrev cX6_store : ByteArray := prog_8_method_38_code
def yX6_store : MethodName := ⟨RX6, "store", "(I)I"⟩
abbrev cX6_server : ByteArray := prog_8_method_39_code
def yX6_server : MethodName := ⟨RX6, "server", "(II)I"⟩
abbrev cX6_bucket : ByteArray := prog_8_method_40_code
def yX6_bucket : MethodName := ⟨RX6, "bucket", "(III)I"⟩
abbrev cX6_value : ByteArray := prog_8_method_41_code
def yX6_value : MethodName := ⟨RX6, "value", "(II)J"⟩
abbrev cX6_record : ByteArray := prog_8_method_42_code
def yX6_record : MethodName := ⟨RX6, "record", "(IIII)I"⟩
abbrev cX6_client : ByteArray := prog_8_method_43_code
def yX6_client : MethodName := ⟨RX6, "client", "(II)I"⟩
abbrev cX6_state : ByteArray := prog_8_method_44_code
def yX6_state : MethodName := ⟨RX6, "state", "(II)I"⟩
abbrev cX6_result : ByteArray := prog_8_method_45_code
def yX6_result : MethodName := ⟨RX6, "result", "(II)J"⟩
abbrev cX6_letter_ : ByteArray := prog_8_method_46_code
def yX6_letter_ : MethodName := ⟨RX6, "letter", "(II)I"⟩
abbrev cX6_count : ByteArray := prog_8_method_47_code
def yX6_count : MethodName := ⟨RX6, "count", "(I)I"⟩
def RJ9 : String := "java/lang/Math"
def TJ9 : u_T := fun k => match k with
  | _ => ("", "", "", false)
def tyJ9 : Nat → FieldType := fun k => match k with
  | _ => .int
abbrev wsJ90 : List Cond := u_ws RJ9 TJ9 0
theorem nmJ9 : ∀ a, a < 0 → ∀ b, b < 0 → a ≠ b → (TJ9 a).2.1 ≠ (TJ9 b).2.1 := by decide +kernel
theorem tyJ9_ok : ∀ k, k < 0 → parseFieldDescriptor (TJ9 k).2.2.1 = some (tyJ9 k) := by decide +kernel
abbrev cJ9_max_7cf53 : ByteArray := prog_9_method_65_code
def yJ9_max_7cf53 : MethodName := ⟨RJ9, "max", "(II)I"⟩
def RJ10 : String := "java/lang/System"
def TJ10 : u_T := fun k => match k with
  | _ => ("", "", "", false)
def tyJ10 : Nat → FieldType := fun k => match k with
  | _ => .int
abbrev wsJ100 : List Cond := u_ws RJ10 TJ10 0
theorem nmJ10 : ∀ a, a < 0 → ∀ b, b < 0 → a ≠ b → (TJ10 a).2.1 ≠ (TJ10 b).2.1 := by decide +kernel
theorem tyJ10_ok : ∀ k, k < 0 → parseFieldDescriptor (TJ10 k).2.2.1 = some (tyJ10 k) := by decide +kernel
def RJ7 : String := "java/util/Arrays"
def TJ7 : u_T := fun k => match k with
  | _ => ("", "", "", false)
def tyJ7 : Nat → FieldType := fun k => match k with
  | _ => .int
abbrev wsJ70 : List Cond := u_ws RJ7 TJ7 0
theorem nmJ7 : ∀ a, a < 0 → ∀ b, b < 0 → a ≠ b → (TJ7 a).2.1 ≠ (TJ7 b).2.1 := by decide +kernel
theorem tyJ7_ok : ∀ k, k < 0 → parseFieldDescriptor (TJ7 k).2.2.1 = some (tyJ7 k) := by decide +kernel
abbrev cJ7_fill_d0a16 : ByteArray := prog_11_method_101_code
def yJ7_fill_d0a16 : MethodName := ⟨RJ7, "fill", "([JJ)V"⟩
abbrev cJ7_fill_53178 : ByteArray := prog_11_method_103_code
def yJ7_fill_53178 : MethodName := ⟨RJ7, "fill", "([II)V"⟩
def RL : String := "OnceCallsLaw"
abbrev cL_cell : ByteArray := method_2_code
def yL_cell : MethodName := ⟨RL, "cell", "([II)I"⟩
abbrev cL_law : ByteArray := code
def yL_law : MethodName := ⟨RL, "law", "([I)Z"⟩
def wsL_law_r1 : List Cond := [Cond.classLink RL 7 RX5, Cond.instantiable RX5 9, Cond.initialized RX5, Cond.classLink RL 18 RX6, Cond.instantiable RX6 53, Cond.initialized RX6, Cond.constantLong RL 30 (4294967295), Cond.methodLink RL 9 yL_cell, Cond.static yL_cell, Cond.initialized RL, Cond.code yL_cell cL_cell 2 (some .int), Cond.methodLink RL 15 yX5_init, Cond.instanceMethod yX5_init, Cond.code yX5_init cX5_init 5 none, Cond.methodLink RX5 3 objectInit, Cond.instanceMethod objectInit, Cond.code objectInit ⟨#[0xb1]⟩ 1 none, Cond.fieldLink RX5 9 "OnceCalls" "lease" "I", Cond.classLink RX5 13 RX4, Cond.fieldLink RX5 15 "OnceCalls" "servers" "[LOnceCalls$Server;", Cond.instantiable RX4 6, Cond.initialized RX4, Cond.classLink RX5 22 RX1, Cond.fieldLink RX5 24 "OnceCalls" "clients" "[LOnceCalls$Client;"]
def wsL_law_r2 : List Cond := [Cond.instantiable RX1 11, Cond.initialized RX1, Cond.classLink RX5 29 RX3, Cond.instantiable RX3 2, Cond.initialized RX3, Cond.fieldLink RX5 34 "OnceCalls" "row" "LOnceCalls$Row;", Cond.methodLink RX5 19 yX4_init, Cond.instanceMethod yX4_init, Cond.code yX4_init cX4_init 6 none, Cond.methodLink RX4 3 objectInit, Cond.classLink RX4 9 RX3, Cond.fieldLink RX4 14 "OnceCalls$Server" "held" "LOnceCalls$Row;", Cond.classLink RX4 20 RX0, Cond.fieldLink RX4 22 "OnceCalls$Server" "memory" "[LOnceCalls$Bucket;", Cond.fieldLink RX4 26 "OnceCalls$Server" "kept" "[LOnceCalls$Bucket;", Cond.fieldLink RX4 29 "OnceCalls$Server" "up" "Z", Cond.fieldLink RX4 33 "OnceCalls$Server" "clean" "Z", Cond.fieldLink RX4 36 "OnceCalls$Server" "index" "I", Cond.methodLink RX4 40 Lib.Math.max.name, Cond.static Lib.Math.max.name, Cond.initialized "java/lang/Math", Cond.code Lib.Math.max.name Lib.Math.max.code 2 (some .int), Cond.instantiable RX0 11, Cond.initialized RX0]
def wsL_law_r3 : List Cond := [Cond.fieldLink RX4 47 "OnceCalls$Bucket" "hint" "I", Cond.fieldLink RX4 50 "OnceCalls$Bucket" "status" "I", Cond.fieldLink RX4 53 "OnceCalls$Bucket" "version" "I", Cond.methodLink RX4 11 yX3_init, Cond.instanceMethod yX3_init, Cond.code yX3_init cX3_init 2 none, Cond.methodLink RX3 1 objectInit, Cond.methodLink RX3 7 Lib.Math.max.name, Cond.classLink RX3 13 RX2, Cond.fieldLink RX3 15 "OnceCalls$Row" "letters" "[LOnceCalls$Letter;", Cond.instanceMethod yX0_init, Cond.code yX0_init cX0_init 1 none, Cond.methodLink RX0 3 objectInit, Cond.arrayClass .long, Cond.fieldLink RX0 9 "OnceCalls$Bucket" "values" "[J", Cond.arrayClass .int, Cond.fieldLink RX0 15 "OnceCalls$Bucket" "recordClients" "[I", Cond.fieldLink RX0 19 "OnceCalls$Bucket" "recordIncarnations" "[I", Cond.fieldLink RX0 22 "OnceCalls$Bucket" "recordNumbers" "[I", Cond.fieldLink RX0 25 "OnceCalls$Bucket" "recordResults" "[J", Cond.fieldLink RX0 28 "OnceCalls$Bucket" "incarnations" "[I", Cond.fieldLink RX0 31 "OnceCalls$Bucket" "firsts" "[I", Cond.methodLink RX4 56 yX0_copyFrom, Cond.instanceMethod yX0_copyFrom]
def wsL_law_r4 : List Cond := [Cond.selects RX0 yX0_copyFrom yX0_copyFrom, Cond.code yX0_copyFrom cX0_copyFrom 2 none, Cond.fieldLink RX0 34 "OnceCalls$Bucket" "status" "I", Cond.fieldLink RX0 38 "OnceCalls$Bucket" "version" "I", Cond.fieldLink RX0 41 "OnceCalls$Bucket" "hint" "I", Cond.fieldLink RX0 44 "OnceCalls$Bucket" "records" "I", Cond.methodLink RX0 47 arraycopyName, Cond.native arraycopyName, Cond.static arraycopyName, Cond.initialized "java/lang/System", Cond.methodLink RX5 28 yX1_init, Cond.instanceMethod yX1_init, Cond.code yX1_init cX1_init 5 none, Cond.methodLink RX1 3 objectInit, Cond.fieldLink RX1 9 "OnceCalls$Client" "guesses" "[I", Cond.fieldLink RX1 15 "OnceCalls$Client" "keys" "[I", Cond.fieldLink RX1 18 "OnceCalls$Client" "acts" "[I", Cond.fieldLink RX1 21 "OnceCalls$Client" "as" "[J", Cond.fieldLink RX1 25 "OnceCalls$Client" "bs" "[J", Cond.fieldLink RX1 28 "OnceCalls$Client" "states" "[I", Cond.fieldLink RX1 31 "OnceCalls$Client" "results" "[J", Cond.fieldLink RX1 34 "OnceCalls$Client" "index" "I", Cond.methodLink RX1 38 Lib.Math.max.name, Cond.methodLink RX5 31 yX3_init]
def wsL_law_r5 : List Cond := [Cond.methodLink RL 20 yX6_init, Cond.instanceMethod yX6_init, Cond.code yX6_init cX6_init 6 none, Cond.methodLink RX6 1 objectInit, Cond.fieldLink RX6 7 "OnceCallsModel" "incarnation" "[I", Cond.fieldLink RX6 13 "OnceCallsModel" "ends" "[I", Cond.fieldLink RX6 16 "OnceCallsModel" "calls" "[I", Cond.fieldLink RX6 19 "OnceCallsModel" "guess" "[I", Cond.fieldLink RX6 22 "OnceCallsModel" "state" "[I", Cond.fieldLink RX6 25 "OnceCallsModel" "result" "[J", Cond.fieldLink RX6 29 "OnceCallsModel" "keys" "[I", Cond.fieldLink RX6 32 "OnceCallsModel" "acts" "[I", Cond.fieldLink RX6 35 "OnceCallsModel" "firstOf" "[J", Cond.fieldLink RX6 38 "OnceCallsModel" "secondOf" "[J", Cond.fieldLink RX6 41 "OnceCallsModel" "status" "[I", Cond.fieldLink RX6 44 "OnceCallsModel" "version" "[I", Cond.fieldLink RX6 47 "OnceCallsModel" "hint" "[I", Cond.fieldLink RX6 50 "OnceCallsModel" "values" "[J", Cond.fieldLink RX6 53 "OnceCallsModel" "size" "[I", Cond.fieldLink RX6 56 "OnceCallsModel" "recordClient" "[I", Cond.fieldLink RX6 59 "OnceCallsModel" "recordIncarnation" "[I", Cond.fieldLink RX6 62 "OnceCallsModel" "recordNumber" "[I", Cond.fieldLink RX6 65 "OnceCallsModel" "recordResult" "[J", Cond.fieldLink RX6 68 "OnceCallsModel" "known" "[I"]
def wsL_law_r6 : List Cond := [Cond.fieldLink RX6 71 "OnceCallsModel" "knownFirst" "[I", Cond.arrayClass .boolean, Cond.fieldLink RX6 74 "OnceCallsModel" "up" "[Z", Cond.fieldLink RX6 78 "OnceCallsModel" "dirty" "[Z", Cond.fieldLink RX6 81 "OnceCallsModel" "used" "[Z", Cond.fieldLink RX6 84 "OnceCallsModel" "kind" "[I", Cond.fieldLink RX6 87 "OnceCallsModel" "to" "[I", Cond.fieldLink RX6 90 "OnceCallsModel" "from" "[I", Cond.fieldLink RX6 93 "OnceCallsModel" "nr" "[I", Cond.fieldLink RX6 96 "OnceCallsModel" "number" "[I", Cond.fieldLink RX6 99 "OnceCallsModel" "info" "[I", Cond.fieldLink RX6 102 "OnceCallsModel" "key" "[I", Cond.fieldLink RX6 105 "OnceCallsModel" "act" "[I", Cond.fieldLink RX6 108 "OnceCallsModel" "a" "[J", Cond.fieldLink RX6 111 "OnceCallsModel" "b" "[J", Cond.fieldLink RX6 114 "OnceCallsModel" "movedValues" "[J", Cond.constant RX6 117 (56400), Cond.fieldLink RX6 118 "OnceCallsModel" "movedClient" "[I", Cond.fieldLink RX6 121 "OnceCallsModel" "movedIncarnation" "[I", Cond.fieldLink RX6 124 "OnceCallsModel" "movedNumber" "[I", Cond.fieldLink RX6 127 "OnceCallsModel" "movedResult" "[J", Cond.fieldLink RX6 130 "OnceCallsModel" "movedKnown" "[I", Cond.fieldLink RX6 133 "OnceCallsModel" "movedFirst" "[I", Cond.fieldLink RX6 136 "OnceCallsModel" "row" "[I"]
def wsL_law_r7 : List Cond := [Cond.fieldLink RX6 139 "OnceCallsModel" "held" "[I", Cond.fieldLink RX6 142 "OnceCallsModel" "heldMany" "[I", Cond.fieldLink RX6 145 "OnceCallsModel" "servers" "I", Cond.fieldLink RX6 149 "OnceCallsModel" "lease" "I", Cond.methodLink RL 21 yX5_open, Cond.instanceMethod yX5_open, Cond.selects RX5 yX5_open yX5_open, Cond.code yX5_open cX5_open 3 (some .int), Cond.fieldLink RX5 42 "OnceCalls" "incarnations" "I", Cond.fieldLink RX5 45 "OnceCalls$Client" "incarnation" "I", Cond.fieldLink RX5 48 "OnceCalls$Client" "calls" "I", Cond.fieldLink RX5 51 "OnceCalls" "time" "I", Cond.fieldLink RX5 54 "OnceCalls$Client" "leaseEnd" "I", Cond.methodLink RX5 38 yX5_clientAt, Cond.instanceMethod yX5_clientAt, Cond.selects RX5 yX5_clientAt yX5_clientAt, Cond.code yX5_clientAt cX5_clientAt 2 (some (.object "OnceCalls$Client")), Cond.methodLink RL 25 yX6_open, Cond.instanceMethod yX6_open, Cond.selects RX6 yX6_open yX6_open, Cond.code yX6_open cX6_open 2 (some .int), Cond.fieldLink RX6 176 "OnceCallsModel" "opened" "I", Cond.fieldLink RX6 156 "OnceCallsModel" "time" "I", Cond.methodLink RX6 172 yX6_isClient]
def wsL_law_r8 : List Cond := [Cond.static yX6_isClient, Cond.code yX6_isClient cX6_isClient 1 (some .boolean), Cond.methodLink RX6 152 yX6_in, Cond.static yX6_in, Cond.code yX6_in cX6_in 3 (some .boolean), Cond.methodLink RL 26 yX5_renew, Cond.instanceMethod yX5_renew, Cond.selects RX5 yX5_renew yX5_renew, Cond.code yX5_renew cX5_renew 3 (some .int), Cond.methodLink RX5 57 yX5_isLive, Cond.instanceMethod yX5_isLive, Cond.selects RX5 yX5_isLive yX5_isLive, Cond.code yX5_isLive cX5_isLive 4 (some .boolean), Cond.methodLink RL 29 yX6_renew, Cond.instanceMethod yX6_renew, Cond.selects RX6 yX6_renew yX6_renew, Cond.code yX6_renew cX6_renew 2 (some .int), Cond.methodLink RX6 179 yX6_isLive, Cond.instanceMethod yX6_isLive, Cond.selects RX6 yX6_isLive yX6_isLive, Cond.code yX6_isLive cX6_isLive 4 (some .boolean), Cond.methodLink RL 32 yX5_call, Cond.instanceMethod yX5_call, Cond.selects RX5 yX5_call yX5_call]
def wsL_law_r9 : List Cond := [Cond.code yX5_call cX5_call 10 (some .int), Cond.methodLink RX5 61 yX1_waiting, Cond.instanceMethod yX1_waiting, Cond.selects RX1 yX1_waiting yX1_waiting, Cond.code yX1_waiting cX1_waiting 3 (some .int), Cond.fieldLink RX1 44 "OnceCalls$Client" "calls" "I", Cond.methodLink RX5 65 yX1_newCall, Cond.instanceMethod yX1_newCall, Cond.selects RX1 yX1_newCall yX1_newCall, Cond.code yX1_newCall cX1_newCall 7 (some .int), Cond.methodLink RX5 69 yX5_requestOf, Cond.static yX5_requestOf, Cond.code yX5_requestOf cX5_requestOf 4 (some (.object "OnceCalls$Letter")), Cond.fieldLink RX5 250 "OnceCalls$Client" "keys" "[I", Cond.classLink RX5 89 RX2, Cond.instantiable RX2 15, Cond.initialized RX2, Cond.fieldLink RX5 225 "OnceCalls$Client" "guesses" "[I", Cond.fieldLink RX5 312 "OnceCalls$Client" "index" "I", Cond.fieldLink RX5 94 "OnceCalls$Letter" "incarnation" "I", Cond.fieldLink RX5 240 "OnceCalls$Letter" "number" "I", Cond.fieldLink RX5 98 "OnceCalls$Letter" "first" "I", Cond.fieldLink RX5 268 "OnceCalls$Letter" "key" "I", Cond.fieldLink RX5 313 "OnceCalls$Client" "acts" "[I"]
def wsL_law_r10 : List Cond := [Cond.fieldLink RX5 316 "OnceCalls$Letter" "act" "I", Cond.fieldLink RX5 319 "OnceCalls$Client" "as" "[J", Cond.fieldLink RX5 322 "OnceCalls$Letter" "a" "J", Cond.fieldLink RX5 325 "OnceCalls$Client" "bs" "[J", Cond.fieldLink RX5 328 "OnceCalls$Letter" "b" "J", Cond.methodLink RX5 205 yX5_bucketOf, Cond.static yX5_bucketOf, Cond.code yX5_bucketOf cX5_bucketOf 1 (some .int), Cond.methodLink RX5 91 yX2_init, Cond.instanceMethod yX2_init, Cond.code yX2_init cX2_init 4 none, Cond.methodLink RX2 3 objectInit, Cond.fieldLink RX2 9 "OnceCalls$Letter" "kind" "I", Cond.fieldLink RX2 15 "OnceCalls$Letter" "to" "I", Cond.fieldLink RX2 18 "OnceCalls$Letter" "from" "I", Cond.methodLink RX5 95 yX1_first, Cond.instanceMethod yX1_first, Cond.selects RX1 yX1_first yX1_first, Cond.code yX1_first cX1_first 2 (some .int), Cond.methodLink RX5 73 yX5_send, Cond.instanceMethod yX5_send, Cond.selects RX5 yX5_send yX5_send, Cond.code yX5_send cX5_send 2 none, Cond.fieldLink RX5 120 "OnceCalls" "lost" "I"]
def wsL_law_r11 : List Cond := [Cond.methodLink RX5 127 yX3_append, Cond.instanceMethod yX3_append, Cond.selects RX3 yX3_append yX3_append, Cond.code yX3_append cX3_append 2 (some .boolean), Cond.fieldLink RX3 21 "OnceCalls$Row" "size" "I", Cond.methodLink RL 36 yX6_call, Cond.instanceMethod yX6_call, Cond.selects RX6 yX6_call yX6_call, Cond.code yX6_call cX6_call 9 (some .int), Cond.methodLink RX6 190 yX6_waiting, Cond.instanceMethod yX6_waiting, Cond.selects RX6 yX6_waiting yX6_waiting, Cond.code yX6_waiting cX6_waiting 4 (some .int), Cond.methodLink RX6 193 yX6_request, Cond.instanceMethod yX6_request, Cond.selects RX6 yX6_request yX6_request, Cond.code yX6_request cX6_request 5 none, Cond.methodLink RX6 182 yX6_letter, Cond.instanceMethod yX6_letter, Cond.selects RX6 yX6_letter yX6_letter, Cond.code yX6_letter cX6_letter 5 (some .int), Cond.fieldLink RX6 159 "OnceCallsModel" "free" "I", Cond.methodLink RX6 186 yX6_first, Cond.instanceMethod yX6_first]
def wsL_law_r12 : List Cond := [Cond.selects RX6 yX6_first yX6_first, Cond.code yX6_first cX6_first 3 (some .int), Cond.methodLink RX6 168 yX6_go, Cond.instanceMethod yX6_go, Cond.selects RX6 yX6_go yX6_go, Cond.code yX6_go cX6_go 2 none, Cond.fieldLink RX6 162 "OnceCallsModel" "letters" "I", Cond.fieldLink RX6 165 "OnceCallsModel" "lost" "I", Cond.methodLink RL 37 yX5_retry, Cond.instanceMethod yX5_retry, Cond.selects RX5 yX5_retry yX5_retry, Cond.code yX5_retry cX5_retry 4 (some .int), Cond.fieldLink RX5 81 "OnceCalls$Client" "states" "[I", Cond.methodLink RX5 77 yX1_hasCall, Cond.instanceMethod yX1_hasCall, Cond.selects RX1 yX1_hasCall yX1_hasCall, Cond.code yX1_hasCall cX1_hasCall 2 (some .boolean), Cond.methodLink RL 41 yX6_retry, Cond.instanceMethod yX6_retry, Cond.selects RX6 yX6_retry yX6_retry, Cond.code yX6_retry cX6_retry 3 (some .int), Cond.methodLink RX6 197 yX6_isCall, Cond.instanceMethod yX6_isCall, Cond.selects RX6 yX6_isCall yX6_isCall]
def wsL_law_r13 : List Cond := [Cond.code yX6_isCall cX6_isCall 3 (some .boolean), Cond.methodLink RL 42 yX5_ack, Cond.instanceMethod yX5_ack, Cond.selects RX5 yX5_ack yX5_ack, Cond.code yX5_ack cX5_ack 5 (some .int), Cond.methodLink RX5 85 yX5_serverAt, Cond.instanceMethod yX5_serverAt, Cond.selects RX5 yX5_serverAt yX5_serverAt, Cond.code yX5_serverAt cX5_serverAt 2 (some (.object "OnceCalls$Server")), Cond.methodLink RL 45 yX6_ack, Cond.instanceMethod yX6_ack, Cond.selects RX6 yX6_ack yX6_ack, Cond.code yX6_ack cX6_ack 5 (some .int), Cond.methodLink RX6 201 yX6_isServer, Cond.instanceMethod yX6_isServer, Cond.selects RX6 yX6_isServer yX6_isServer, Cond.code yX6_isServer cX6_isServer 2 (some .boolean), Cond.methodLink RL 46 yX5_deliver, Cond.instanceMethod yX5_deliver, Cond.selects RX5 yX5_deliver yX5_deliver, Cond.code yX5_deliver cX5_deliver 4 (some .int), Cond.fieldLink RX5 107 "OnceCalls$Letter" "kind" "I", Cond.fieldLink RX5 113 "OnceCalls$Letter" "to" "I", Cond.fieldLink RX5 116 "OnceCalls$Server" "up" "Z"]
def wsL_law_r14 : List Cond := [Cond.methodLink RX5 100 yX3_at, Cond.instanceMethod yX3_at, Cond.selects RX3 yX3_at yX3_at, Cond.code yX3_at cX3_at 2 (some (.object "OnceCalls$Letter")), Cond.methodLink RX5 104 yX3_removeAt, Cond.instanceMethod yX3_removeAt, Cond.selects RX3 yX3_removeAt yX3_removeAt, Cond.code yX3_removeAt cX3_removeAt 3 none, Cond.methodLink RX5 110 yX5_takeAnswer, Cond.instanceMethod yX5_takeAnswer, Cond.selects RX5 yX5_takeAnswer yX5_takeAnswer, Cond.code yX5_takeAnswer cX5_takeAnswer 3 none, Cond.fieldLink RX5 243 "OnceCalls$Letter" "code" "I", Cond.fieldLink RX5 228 "OnceCalls$Client" "results" "[J", Cond.fieldLink RX5 246 "OnceCalls$Letter" "result" "J", Cond.fieldLink RX5 237 "OnceCalls" "done" "I", Cond.methodLink RX5 253 yX1_refuseWaiting, Cond.instanceMethod yX1_refuseWaiting, Cond.selects RX1 yX1_refuseWaiting yX1_refuseWaiting, Cond.code yX1_refuseWaiting cX1_refuseWaiting 2 none, Cond.methodLink RX5 123 yX5_takeAtServer, Cond.instanceMethod yX5_takeAtServer, Cond.selects RX5 yX5_takeAtServer yX5_takeAtServer, Cond.code yX5_takeAtServer cX5_takeAtServer 3 none]
def wsL_law_r15 : List Cond := [Cond.methodLink RX5 256 yX5_takeRequest, Cond.instanceMethod yX5_takeRequest, Cond.selects RX5 yX5_takeRequest yX5_takeRequest, Cond.code yX5_takeRequest cX5_takeRequest 4 none, Cond.fieldLink RX5 271 "OnceCalls$Letter" "from" "I", Cond.fieldLink RX5 155 "OnceCalls$Bucket" "status" "I", Cond.fieldLink RX5 158 "OnceCalls$Bucket" "hint" "I", Cond.methodLink RX5 146 yX4_bucketAt, Cond.instanceMethod yX4_bucketAt, Cond.selects RX4 yX4_bucketAt yX4_bucketAt, Cond.code yX4_bucketAt cX4_bucketAt 2 (some (.object "OnceCalls$Bucket")), Cond.methodLink RX5 274 yX5_answer, Cond.instanceMethod yX5_answer, Cond.selects RX5 yX5_answer yX5_answer, Cond.code yX5_answer cX5_answer 7 none, Cond.fieldLink RX5 303 "OnceCalls$Server" "index" "I", Cond.methodLink RX5 180 yX5_sendFrom, Cond.instanceMethod yX5_sendFrom, Cond.selects RX5 yX5_sendFrom yX5_sendFrom, Cond.code yX5_sendFrom cX5_sendFrom 4 none, Cond.fieldLink RX5 161 "OnceCalls$Server" "clean" "Z", Cond.fieldLink RX5 134 "OnceCalls$Server" "held" "LOnceCalls$Row;", Cond.methodLink RX5 278 yX5_takeOwnRequest, Cond.instanceMethod yX5_takeOwnRequest]
def wsL_law_r16 : List Cond := [Cond.selects RX5 yX5_takeOwnRequest yX5_takeOwnRequest, Cond.code yX5_takeOwnRequest cX5_takeOwnRequest 7 none, Cond.fieldLink RX5 292 "OnceCalls$Bucket" "recordResults" "[J", Cond.fieldLink RX5 202 "OnceCalls$Bucket" "records" "I", Cond.fieldLink RX5 234 "OnceCalls" "effects" "I", Cond.methodLink RX5 282 yX0_know, Cond.instanceMethod yX0_know, Cond.selects RX0 yX0_know yX0_know, Cond.code yX0_know cX0_know 3 (some .boolean), Cond.fieldLink RX0 62 "OnceCalls$Letter" "from" "I", Cond.fieldLink RX0 67 "OnceCalls$Letter" "incarnation" "I", Cond.constant RX0 72 (2147483647), Cond.fieldLink RX0 77 "OnceCalls$Letter" "first" "I", Cond.methodLink RX0 73 yX0_removeRecordsBelow, Cond.instanceMethod yX0_removeRecordsBelow, Cond.selects RX0 yX0_removeRecordsBelow yX0_removeRecordsBelow, Cond.code yX0_removeRecordsBelow cX0_removeRecordsBelow 4 none, Cond.methodLink RX0 80 yX0_removeRecord, Cond.instanceMethod yX0_removeRecord, Cond.selects RX0 yX0_removeRecord yX0_removeRecord, Cond.code yX0_removeRecord cX0_removeRecord 3 none, Cond.methodLink RX5 285 yX0_find, Cond.instanceMethod yX0_find, Cond.selects RX0 yX0_find yX0_find]
def wsL_law_r17 : List Cond := [Cond.code yX0_find cX0_find 3 (some .int), Cond.fieldLink RX0 84 "OnceCalls$Letter" "number" "I", Cond.methodLink RX5 289 yX0_firstOf, Cond.instanceMethod yX0_firstOf, Cond.selects RX0 yX0_firstOf yX0_firstOf, Cond.code yX0_firstOf cX0_firstOf 2 (some .int), Cond.methodLink RX5 295 yX0_doAct, Cond.instanceMethod yX0_doAct, Cond.selects RX0 yX0_doAct yX0_doAct, Cond.code yX0_doAct cX0_doAct 5 (some .long), Cond.fieldLink RX0 87 "OnceCalls$Letter" "key" "I", Cond.fieldLink RX0 94 "OnceCalls$Letter" "act" "I", Cond.fieldLink RX0 97 "OnceCalls$Letter" "a" "J", Cond.fieldLink RX0 101 "OnceCalls$Letter" "b" "J", Cond.static yX5_placeOf, Cond.code yX5_placeOf cX5_placeOf 1 (some .int), Cond.methodLink RX5 299 yX0_addRecord, Cond.instanceMethod yX0_addRecord, Cond.selects RX0 yX0_addRecord yX0_addRecord, Cond.code yX0_addRecord cX0_addRecord 4 none, Cond.methodLink RX5 259 yX5_takeMove, Cond.instanceMethod yX5_takeMove, Cond.selects RX5 yX5_takeMove yX5_takeMove, Cond.code yX5_takeMove cX5_takeMove 5 none]
def wsL_law_r18 : List Cond := [Cond.fieldLink RX5 164 "OnceCalls$Letter" "bucket" "I", Cond.fieldLink RX5 172 "OnceCalls$Letter" "load" "LOnceCalls$Bucket;", Cond.fieldLink RX5 170 "OnceCalls$Letter" "version" "I", Cond.fieldLink RX5 167 "OnceCalls$Bucket" "version" "I", Cond.methodLink RX5 176 yX0_copyFrom, Cond.methodLink RX5 262 yX5_takeTaken, Cond.instanceMethod yX5_takeTaken, Cond.selects RX5 yX5_takeTaken yX5_takeTaken, Cond.code yX5_takeTaken cX5_takeTaken 4 none, Cond.methodLink RX5 306 yX0_empty, Cond.instanceMethod yX0_empty, Cond.selects RX0 yX0_empty yX0_empty, Cond.code yX0_empty cX0_empty 1 none, Cond.methodLink RX0 53 yJ7_fill_d0a16, Cond.static yJ7_fill_d0a16, Cond.initialized RJ7, Cond.code yJ7_fill_d0a16 cJ7_fill_d0a16 5 none, Cond.methodLink RX0 59 yJ7_fill_53178, Cond.static yJ7_fill_53178, Cond.code yJ7_fill_53178 cJ7_fill_53178 4 none, Cond.methodLink RX5 265 yX5_takeAck, Cond.instanceMethod yX5_takeAck, Cond.selects RX5 yX5_takeAck yX5_takeAck, Cond.code yX5_takeAck cX5_takeAck 5 none]
def wsL_law_r19 : List Cond := [Cond.methodLink RL 49 yX6_deliver, Cond.instanceMethod yX6_deliver, Cond.selects RX6 yX6_deliver yX6_deliver, Cond.code yX6_deliver cX6_deliver 5 (some .int), Cond.methodLink RX6 228 yX6_takeOut, Cond.instanceMethod yX6_takeOut, Cond.selects RX6 yX6_takeOut yX6_takeOut, Cond.code yX6_takeOut cX6_takeOut 4 (some .int), Cond.methodLink RX6 231 yX6_asked, Cond.instanceMethod yX6_asked, Cond.selects RX6 yX6_asked yX6_asked, Cond.code yX6_asked cX6_asked 8 none, Cond.fieldLink RX6 225 "OnceCallsModel" "effects" "I", Cond.methodLink RX6 213 yX6_answer, Cond.instanceMethod yX6_answer, Cond.selects RX6 yX6_answer yX6_answer, Cond.code yX6_answer cX6_answer 7 none, Cond.methodLink RX6 210 yX6_sendFrom, Cond.instanceMethod yX6_sendFrom, Cond.selects RX6 yX6_sendFrom yX6_sendFrom, Cond.code yX6_sendFrom cX6_sendFrom 3 none, Cond.methodLink RX6 217 yX6_know, Cond.instanceMethod yX6_know, Cond.selects RX6 yX6_know yX6_know]
def wsL_law_r20 : List Cond := [Cond.code yX6_know cX6_know 10 none, Cond.methodLink RX6 207 yX6_forget, Cond.instanceMethod yX6_forget, Cond.selects RX6 yX6_forget yX6_forget, Cond.code yX6_forget cX6_forget 5 none, Cond.methodLink RX6 221 yX6_effect, Cond.instanceMethod yX6_effect, Cond.selects RX6 yX6_effect yX6_effect, Cond.code yX6_effect cX6_effect 5 (some .long), Cond.methodLink RX6 234 yX6_answered, Cond.instanceMethod yX6_answered, Cond.selects RX6 yX6_answered yX6_answered, Cond.code yX6_answered cX6_answered 5 none, Cond.fieldLink RX6 204 "OnceCallsModel" "done" "I", Cond.methodLink RX6 237 yX6_moved, Cond.instanceMethod yX6_moved, Cond.selects RX6 yX6_moved yX6_moved, Cond.code yX6_moved cX6_moved 6 none, Cond.methodLink RX6 240 yX6_taken, Cond.instanceMethod yX6_taken, Cond.selects RX6 yX6_taken yX6_taken, Cond.code yX6_taken cX6_taken 4 none, Cond.methodLink RL 50 yX5_drop, Cond.instanceMethod yX5_drop]
def wsL_law_r21 : List Cond := [Cond.selects RX5 yX5_drop yX5_drop, Cond.code yX5_drop cX5_drop 3 (some .int), Cond.methodLink RL 53 yX6_drop, Cond.instanceMethod yX6_drop, Cond.selects RX6 yX6_drop yX6_drop, Cond.code yX6_drop cX6_drop 3 (some .int), Cond.methodLink RL 54 yX5_twin, Cond.instanceMethod yX5_twin, Cond.selects RX5 yX5_twin yX5_twin, Cond.code yX5_twin cX5_twin 3 (some .int), Cond.methodLink RL 57 yX6_twin, Cond.instanceMethod yX6_twin, Cond.selects RX6 yX6_twin yX6_twin, Cond.code yX6_twin cX6_twin 5 (some .int), Cond.methodLink RL 58 yX5_sync, Cond.instanceMethod yX5_sync, Cond.selects RX5 yX5_sync yX5_sync, Cond.code yX5_sync cX5_sync 5 (some .int), Cond.fieldLink RX5 137 "OnceCalls$Row" "size" "I", Cond.methodLink RX5 131 yX4_keep, Cond.instanceMethod yX4_keep, Cond.selects RX4 yX4_keep yX4_keep, Cond.code yX4_keep cX4_keep 2 none, Cond.methodLink RX5 140 yX3_clear]
def wsL_law_r22 : List Cond := [Cond.instanceMethod yX3_clear, Cond.selects RX3 yX3_clear yX3_clear, Cond.code yX3_clear cX3_clear 2 none, Cond.methodLink RL 61 yX6_sync, Cond.instanceMethod yX6_sync, Cond.selects RX6 yX6_sync yX6_sync, Cond.code yX6_sync cX6_sync 4 (some .int), Cond.methodLink RX6 243 yX6_copy, Cond.instanceMethod yX6_copy, Cond.selects RX6 yX6_copy yX6_copy, Cond.code yX6_copy cX6_copy 7 none, Cond.methodLink RL 62 yX5_crash, Cond.instanceMethod yX5_crash, Cond.selects RX5 yX5_crash yX5_crash, Cond.code yX5_crash cX5_crash 4 (some .int), Cond.methodLink RX5 143 yX4_restore, Cond.instanceMethod yX4_restore, Cond.selects RX4 yX4_restore yX4_restore, Cond.code yX4_restore cX4_restore 2 none, Cond.methodLink RL 65 yX6_crash, Cond.instanceMethod yX6_crash, Cond.selects RX6 yX6_crash yX6_crash, Cond.code yX6_crash cX6_crash 4 (some .int), Cond.methodLink RL 66 yX5_start]
def wsL_law_r23 : List Cond := [Cond.instanceMethod yX5_start, Cond.selects RX5 yX5_start yX5_start, Cond.code yX5_start cX5_start 3 (some .int), Cond.methodLink RL 69 yX6_start, Cond.instanceMethod yX6_start, Cond.selects RX6 yX6_start yX6_start, Cond.code yX6_start cX6_start 2 (some .int), Cond.methodLink RL 70 yX5_move, Cond.instanceMethod yX5_move, Cond.selects RX5 yX5_move yX5_move, Cond.code yX5_move cX5_move 7 (some .int), Cond.classLink RX5 151 RX0, Cond.methodLink RX5 150 yX0_canLeaveFor, Cond.instanceMethod yX0_canLeaveFor, Cond.selects RX0 yX0_canLeaveFor yX0_canLeaveFor, Cond.code yX0_canLeaveFor cX0_canLeaveFor 2 (some .boolean), Cond.methodLink RL 74 yX6_move, Cond.instanceMethod yX6_move, Cond.selects RX6 yX6_move yX6_move, Cond.code yX6_move cX6_move 7 (some .int), Cond.methodLink RL 75 yX5_collect, Cond.instanceMethod yX5_collect, Cond.selects RX5 yX5_collect yX5_collect, Cond.code yX5_collect cX5_collect 6 (some .int)]
def wsL_law_r24 : List Cond := [Cond.methodLink RX5 183 yX5_removeDeadRecords, Cond.instanceMethod yX5_removeDeadRecords, Cond.selects RX5 yX5_removeDeadRecords yX5_removeDeadRecords, Cond.code yX5_removeDeadRecords cX5_removeDeadRecords 4 (some .int), Cond.fieldLink RX5 216 "OnceCalls$Bucket" "recordClients" "[I", Cond.fieldLink RX5 219 "OnceCalls$Bucket" "recordIncarnations" "[I", Cond.methodLink RX5 309 yX0_removeRecord, Cond.methodLink RL 78 yX6_collect, Cond.instanceMethod yX6_collect, Cond.selects RX6 yX6_collect yX6_collect, Cond.code yX6_collect cX6_collect 6 (some .int), Cond.methodLink RL 79 yX5_ticks, Cond.instanceMethod yX5_ticks, Cond.selects RX5 yX5_ticks yX5_ticks, Cond.code yX5_ticks cX5_ticks 2 (some .int), Cond.methodLink RL 82 yX6_ticks, Cond.instanceMethod yX6_ticks, Cond.selects RX6 yX6_ticks yX6_ticks, Cond.code yX6_ticks cX6_ticks 2 (some .int), Cond.methodLink RL 83 yX5_server, Cond.instanceMethod yX5_server, Cond.selects RX5 yX5_server yX5_server, Cond.code yX5_server cX5_server 4 (some .int), Cond.methodLink RX5 187 yX5_oneIf]
def wsL_law_r25 : List Cond := [Cond.static yX5_oneIf, Cond.code yX5_oneIf cX5_oneIf 1 (some .int), Cond.methodLink RX5 191 yX4_recordsInAll, Cond.instanceMethod yX4_recordsInAll, Cond.selects RX4 yX4_recordsInAll yX4_recordsInAll, Cond.code yX4_recordsInAll cX4_recordsInAll 3 (some .int), Cond.fieldLink RX4 60 "OnceCalls$Bucket" "records" "I", Cond.methodLink RL 86 yX6_server, Cond.instanceMethod yX6_server, Cond.selects RX6 yX6_server yX6_server, Cond.code yX6_server cX6_server 5 (some .int), Cond.methodLink RL 87 yX5_bucket, Cond.instanceMethod yX5_bucket, Cond.selects RX5 yX5_bucket yX5_bucket, Cond.code yX5_bucket cX5_bucket 5 (some .int), Cond.fieldLink RX5 197 "OnceCalls$Bucket" "incarnations" "[I", Cond.fieldLink RX5 199 "OnceCalls$Bucket" "firsts" "[I", Cond.methodLink RX5 194 yX5_bucketAt, Cond.instanceMethod yX5_bucketAt, Cond.selects RX5 yX5_bucketAt yX5_bucketAt, Cond.code yX5_bucketAt cX5_bucketAt 4 (some (.object "OnceCalls$Bucket")), Cond.methodLink RL 90 yX6_bucket, Cond.instanceMethod yX6_bucket, Cond.selects RX6 yX6_bucket yX6_bucket]
def wsL_law_r26 : List Cond := [Cond.code yX6_bucket cX6_bucket 5 (some .int), Cond.methodLink RX6 246 yX6_store, Cond.instanceMethod yX6_store, Cond.selects RX6 yX6_store yX6_store, Cond.code yX6_store cX6_store 2 (some .int), Cond.methodLink RL 91 yX5_value, Cond.instanceMethod yX5_value, Cond.selects RX5 yX5_value yX5_value, Cond.code yX5_value cX5_value 4 (some .long), Cond.fieldLink RX5 209 "OnceCalls$Bucket" "values" "[J", Cond.methodLink RX5 213 yX5_placeOf, Cond.methodLink RL 95 yX6_value, Cond.instanceMethod yX6_value, Cond.selects RX6 yX6_value yX6_value, Cond.code yX6_value cX6_value 3 (some .long), Cond.methodLink RL 96 yX5_record, Cond.instanceMethod yX5_record, Cond.selects RX5 yX5_record yX5_record, Cond.code yX5_record cX5_record 6 (some .int), Cond.fieldLink RX5 222 "OnceCalls$Bucket" "recordNumbers" "[I", Cond.methodLink RL 100 yX6_record, Cond.instanceMethod yX6_record, Cond.selects RX6 yX6_record yX6_record, Cond.code yX6_record cX6_record 7 (some .int)]
def wsL_law_r27 : List Cond := [Cond.methodLink RL 101 yX5_client, Cond.instanceMethod yX5_client, Cond.selects RX5 yX5_client yX5_client, Cond.code yX5_client cX5_client 4 (some .int), Cond.methodLink RL 104 yX6_client, Cond.instanceMethod yX6_client, Cond.selects RX6 yX6_client yX6_client, Cond.code yX6_client cX6_client 3 (some .int), Cond.methodLink RL 105 yX5_state, Cond.instanceMethod yX5_state, Cond.selects RX5 yX5_state yX5_state, Cond.code yX5_state cX5_state 4 (some .int), Cond.methodLink RL 108 yX6_state, Cond.instanceMethod yX6_state, Cond.selects RX6 yX6_state yX6_state, Cond.code yX6_state cX6_state 3 (some .int), Cond.methodLink RL 109 yX5_result, Cond.instanceMethod yX5_result, Cond.selects RX5 yX5_result yX5_result, Cond.code yX5_result cX5_result 4 (some .long), Cond.methodLink RL 112 yX6_result, Cond.instanceMethod yX6_result, Cond.selects RX6 yX6_result yX6_result, Cond.code yX6_result cX6_result 3 (some .long)]
def wsL_law_r28 : List Cond := [Cond.methodLink RL 113 yX5_letter, Cond.instanceMethod yX5_letter, Cond.selects RX5 yX5_letter yX5_letter, Cond.code yX5_letter cX5_letter 4 (some .int), Cond.methodLink RX5 231 yX2_part, Cond.instanceMethod yX2_part, Cond.selects RX2 yX2_part yX2_part, Cond.code yX2_part cX2_part 2 (some .int), Cond.fieldLink RX2 25 "OnceCalls$Letter" "version" "I", Cond.fieldLink RX2 28 "OnceCalls$Letter" "incarnation" "I", Cond.methodLink RX2 21 yX2_isBetweenServers, Cond.instanceMethod yX2_isBetweenServers, Cond.selects RX2 yX2_isBetweenServers yX2_isBetweenServers, Cond.code yX2_isBetweenServers cX2_isBetweenServers 1 (some .boolean), Cond.methodLink RX2 31 yX2_fourthPart, Cond.instanceMethod yX2_fourthPart, Cond.selects RX2 yX2_fourthPart yX2_fourthPart, Cond.code yX2_fourthPart cX2_fourthPart 1 (some .int), Cond.fieldLink RX2 38 "OnceCalls$Letter" "bucket" "I", Cond.fieldLink RX2 41 "OnceCalls$Letter" "first" "I", Cond.fieldLink RX2 44 "OnceCalls$Letter" "number" "I", Cond.methodLink RX2 35 yX2_fifthPart, Cond.instanceMethod yX2_fifthPart, Cond.selects RX2 yX2_fifthPart yX2_fifthPart]
def wsL_law_r29 : List Cond := [Cond.code yX2_fifthPart cX2_fifthPart 1 (some .int), Cond.fieldLink RX2 47 "OnceCalls$Letter" "code" "I", Cond.fieldLink RX2 50 "OnceCalls$Letter" "load" "LOnceCalls$Bucket;", Cond.fieldLink RX2 54 "OnceCalls$Bucket" "records" "I", Cond.methodLink RL 116 yX6_letter_, Cond.instanceMethod yX6_letter_, Cond.selects RX6 yX6_letter_ yX6_letter_, Cond.code yX6_letter_ cX6_letter_ 5 (some .int), Cond.methodLink RL 117 yX5_count, Cond.instanceMethod yX5_count, Cond.selects RX5 yX5_count yX5_count, Cond.code yX5_count cX5_count 2 (some .int), Cond.methodLink RL 120 yX6_count, Cond.instanceMethod yX6_count, Cond.selects RX6 yX6_count yX6_count, Cond.code yX6_count cX6_count 2 (some .int)]
def wsL_law : List Cond := (wsL_law_r1 ++ (wsL_law_r2 ++ (wsL_law_r3 ++ (wsL_law_r4 ++ (wsL_law_r5 ++ (wsL_law_r6 ++ (wsL_law_r7 ++ (wsL_law_r8 ++ (wsL_law_r9 ++ (wsL_law_r10 ++ (wsL_law_r11 ++ (wsL_law_r12 ++ (wsL_law_r13 ++ (wsL_law_r14 ++ (wsL_law_r15 ++ (wsL_law_r16 ++ (wsL_law_r17 ++ (wsL_law_r18 ++ (wsL_law_r19 ++ (wsL_law_r20 ++ (wsL_law_r21 ++ (wsL_law_r22 ++ (wsL_law_r23 ++ (wsL_law_r24 ++ (wsL_law_r25 ++ (wsL_law_r26 ++ (wsL_law_r27 ++ (wsL_law_r28 ++ wsL_law_r29)))))))))))))))))))))))))))) ++ wsX50 ++ wsX60 ++ wsX40 ++ wsX10 ++ wsX30 ++ wsX00 ++ wsX20 ++ ([] : List Cond)
theorem inlX0 : ∀ w ∈ wsX00, w ∈ wsL_law := fun _ h => List.mem_append_left _ (List.mem_append_left _ (List.mem_append_right _ h))
theorem inlX1 : ∀ w ∈ wsX10, w ∈ wsL_law := fun _ h => List.mem_append_left _ (List.mem_append_left _ (List.mem_append_left _ (List.mem_append_left _ (List.mem_append_right _ h))))
theorem inlX2 : ∀ w ∈ wsX20, w ∈ wsL_law := fun _ h => List.mem_append_left _ (List.mem_append_right _ h)
theorem inlX3 : ∀ w ∈ wsX30, w ∈ wsL_law := fun _ h => List.mem_append_left _ (List.mem_append_left _ (List.mem_append_left _ (List.mem_append_right _ h)))
theorem inlX4 : ∀ w ∈ wsX40, w ∈ wsL_law := fun _ h => List.mem_append_left _ (List.mem_append_left _ (List.mem_append_left _ (List.mem_append_left _ (List.mem_append_left _ (List.mem_append_right _ h)))))
theorem inlX5 : ∀ w ∈ wsX50, w ∈ wsL_law := fun _ h => List.mem_append_left _ (List.mem_append_left _ (List.mem_append_left _ (List.mem_append_left _ (List.mem_append_left _ (List.mem_append_left _ (List.mem_append_left _ (List.mem_append_right _ h)))))))
theorem inlX6 : ∀ w ∈ wsX60, w ∈ wsL_law := fun _ h => List.mem_append_left _ (List.mem_append_left _ (List.mem_append_left _ (List.mem_append_left _ (List.mem_append_left _ (List.mem_append_left _ (List.mem_append_right _ h))))))
abbrev vwCl : List vw_C := [(RX0, TX0, 11), (RX1, TX1, 11), (RX2, TX2, 15), (RX3, TX3, 2), (RX4, TX4, 6), (RX5, TX5, 9), (RX6, TX6, 53)]
end
section
/-! THE WORLD AS FUNCTIONS: every cell made since the law began, by its address: its kind (0 none; class number + 1; 100 + array kind), its length, its ints, longs, references by slot; the next address. -/
abbrev Wd : Type := Nat × (Nat → Nat) × (Nat → Nat) × (Nat → Nat → Int32) × (Nat → Nat → Int64) × (Nat → Nat → Option Nat)
def wn (w : Wd) : Nat := w.1
def wK (w : Wd) : Nat → Nat := w.2.1
def wN (w : Wd) : Nat → Nat := w.2.2.1
def wI (w : Wd) : Nat → Nat → Int32 := w.2.2.2.1
def wL (w : Wd) : Nat → Nat → Int64 := w.2.2.2.2.1
def wR (w : Wd) : Nat → Nat → Option Nat := w.2.2.2.2.2
def up2 {α : Type} (f : Nat → Nat → α) (a k : Nat) (v : α) : Nat → Nat → α := va_up f a (va_up (f a) k v)
def sI (w : Wd) (a k : Nat) (v : Int32) : Wd := (wn w, wK w, wN w, up2 (wI w) a k v, wL w, wR w)
def sL (w : Wd) (a k : Nat) (v : Int64) : Wd := (wn w, wK w, wN w, wI w, up2 (wL w) a k v, wR w)
def sR (w : Wd) (a k : Nat) (v : Option Nat) : Wd := (wn w, wK w, wN w, wI w, wL w, up2 (wR w) a k v)
/-- a whole row of ints, of longs anew -/
def rI (w : Wd) (a : Nat) (f : Nat → Int32) : Wd := (wn w, wK w, wN w, va_up (wI w) a f, wL w, wR w)
def rL (w : Wd) (a : Nat) (f : Nat → Int64) : Wd := (wn w, wK w, wN w, wI w, va_up (wL w) a f, wR w)
/-- a new cell of kind kd, of length n -/
def newC (w : Wd) (kd n : Nat) : Wd := (wn w + 1, va_up (wK w) (wn w) kd, va_up (wN w) (wn w) n, va_up (wI w) (wn w) (fun _ => 0), va_up (wL w) (wn w) (fun _ => 0), va_up (wR w) (wn w) (fun _ => none))
def fT : Nat → List Nat := fun c => match c with
  | 0 => [0, 0, 0, 0, 2, 2, 2, 2, 2, 2, 2]
  | 1 => [0, 0, 0, 0, 2, 2, 2, 2, 2, 2, 2]
  | 2 => [0, 0, 0, 0, 0, 0, 0, 0, 0, 0, 0, 1, 1, 1, 2]
  | 3 => [2, 0]
  | 4 => [0, 2, 2, 2, 3, 3]
  | 5 => [2, 2, 2, 0, 0, 0, 0, 0, 0]
  | 6 => [0, 0, 0, 0, 0, 0, 0, 2, 2, 2, 2, 2, 2, 2, 2, 2, 2, 2, 2, 2, 2, 2, 2, 2, 2, 2, 2, 2, 2, 2, 2, 2, 2, 2, 2, 2, 2, 2, 2, 2, 2, 2, 2, 2, 2, 2, 2, 2, 0, 2, 0, 2, 2]
  | _ => []
def fV (w : Wd) (a k t : Nat) : Value := match t with
  | 1 => .long (wL w a k)
  | 2 => va_rf (wR w a k)
  | _ => .int (wI w a k)
def flds (w : Wd) (a : Nat) (ts : List Nat) : List Value := ts.mapIdx (fun k t => fV w a k t)
def aRow (w : Wd) (a t : Nat) : vp_A := match t with
  | 0 => (wN w a, .inl (wI w a))
  | 1 => (wN w a, .inr (.inl (wL w a)))
  | 2 => (wN w a, .inl (wI w a))
  | _ => (wN w a, .inr (.inr (.inr (.inr (wR w a)))))
def cellOf (aC : Nat → ClassId) (w : Wd) (a : Nat) : va_E := if wK w a < 100 then .inr (wK w a - 1, flds w a (fT (wK w a - 1))) else .inl (aC (wK w a - 100), aRow w a (wK w a - 100))
def wl (aC : Nat → ClassId) (b0 : Nat) (w : Wd) : va_W := (List.range (wn w - b0)).map (fun j => (b0 + j, cellOf aC w (b0 + j)))
theorem wl_get {aC : Nat → ClassId} {b0 a : Nat} {w : Wd} (h0 : b0 ≤ a) (h1 : a < wn w) : (wl aC b0 w)[a - b0]? = some (a, cellOf aC w a) := by
  unfold wl
  rw [List.getElem?_map, List.getElem?_range (by omega)]
  simp only [Option.map_some]
  rw [show b0 + (a - b0) = a by omega]
theorem wl_len {aC : Nat → ClassId} {b0 : Nat} {w : Wd} : (wl aC b0 w).length = wn w - b0 := by simp [wl]
theorem wl_any {aC : Nat → ClassId} {b0 k : Nat} {w : Wd} {q : Nat × va_E} (h : (wl aC b0 w)[k]? = some q) : q.1 = b0 + k ∧ k < wn w - b0 ∧ q.2 = cellOf aC w q.1 := by
  have hk : k < wn w - b0 := by
    have := (List.getElem?_eq_some_iff.mp h).1
    rwa [wl_len] at this
  unfold wl at h
  rw [List.getElem?_map, List.getElem?_range hk] at h
  simp only [Option.map_some, Option.some.injEq] at h
  subst h
  exact ⟨rfl, hk, rfl⟩
theorem wl_D {aC : Nat → ClassId} {b0 : Nat} {w : Wd} : va_D (fun q : Nat => b0 ≤ q) (wl aC b0 w) := by
  refine ⟨fun i j p q hi hj h => ?_, fun k q hk => ?_⟩
  · have h1 := (wl_any hi).1
    have h2 := (wl_any hj).1
    omega
  · have h1 := (wl_any hk).1
    show b0 ≤ q.1
    omega
theorem wl_set {aC : Nat → ClassId} {b0 a : Nat} {w w' : Wd} (h0 : b0 ≤ a) (hn : wn w' = wn w) (ho : ∀ b, b ≠ a → cellOf aC w' b = cellOf aC w b) : (wl aC b0 w).set (a - b0) (a, cellOf aC w' a) = wl aC b0 w' := by
  apply List.ext_getElem?
  intro i
  by_cases hi : i < wn w - b0
  · have e2 : (wl aC b0 w')[i]? = some (b0 + i, cellOf aC w' (b0 + i)) := by
      have := wl_get (aC := aC) (b0 := b0) (a := b0 + i) (w := w') (by omega) (by omega)
      rwa [show b0 + i - b0 = i by omega] at this
    have e1 : (wl aC b0 w)[i]? = some (b0 + i, cellOf aC w (b0 + i)) := by
      have := wl_get (aC := aC) (b0 := b0) (a := b0 + i) (w := w) (by omega) (by omega)
      rwa [show b0 + i - b0 = i by omega] at this
    by_cases hia : i = a - b0
    · subst hia
      rw [List.getElem?_set_self (by rw [wl_len]; exact hi), e2, show b0 + (a - b0) = a by omega]
    · rw [List.getElem?_set_ne (Ne.symm hia), e1, e2, ho (b0 + i) (by omega)]
  · rw [List.getElem?_eq_none (by rw [List.length_set, wl_len]; omega), List.getElem?_eq_none (by rw [wl_len]; omega)]
theorem wl_push {aC : Nat → ClassId} {b0 : Nat} {w w' : Wd} (h0 : b0 ≤ wn w) (hn : wn w' = wn w + 1) (ho : ∀ b, b < wn w → cellOf aC w' b = cellOf aC w b) : wl aC b0 w ++ [(wn w, cellOf aC w' (wn w))] = wl aC b0 w' := by
  unfold wl
  rw [hn, show wn w + 1 - b0 = (wn w - b0) + 1 by omega, List.range_succ, List.map_append]
  congr 1
  · apply List.map_congr_left
    intro j hj
    have hj := List.mem_range.mp hj
    rw [ho _ (by omega)]
  · simp only [List.map_cons, List.map_nil]
    rw [show b0 + (wn w - b0) = wn w by omega]
/-- the heap holds the world -/
def Mm (D : va_G) (aC : Nat → ClassId) (b0 : Nat) (w : Wd) (H : Heap) : Prop := H.size = wn w ∧ b0 ≤ wn w ∧ (∀ a, wK w a ≠ 0 → b0 ≤ a ∧ a < wn w) ∧ va_P D vwCl (wl aC b0 w) H
/-- the array classes -/
def tyL (aC : Nat → ClassId) : List (ClassId × FieldType) := [(aC 0, .int), (aC 1, .long), (aC 2, .boolean), (aC 3, .object RX0), (aC 4, .object RX1), (aC 5, .object RX2), (aC 6, .object RX4)]
abbrev nst1 : Cond := .methodLinkNest RX4 46 yX0_init RX5
abbrev nst2 : Cond := .methodLinkNest RX0 90 yX5_placeOf RX5
abbrev nst3 : Cond := .methodLinkNest RX5 171 yX0_init RX5
def KX (D : va_G) (aC : Nat → ClassId) (U : State) : Prop := va_K D vwCl (tyL aC) U ∧ va_Nw nst1 U ∧ va_Nw nst2 U ∧ va_Nw nst3 U ∧ va_AO RX0 U ∧ va_AO RX1 U ∧ va_AO RX2 U ∧ va_AO RX4 U
theorem KX.warm {D : va_G} {aC : Nat → ClassId} {s U : State} (hW : s.WarmedH U.vm) (h : KX D aC s) : KX D aC U :=
  ⟨va_K.moved hW.alike h.1, va_Nw.warmM hW h.2.1, va_Nw.warmM hW h.2.2.1, va_Nw.warmM hW h.2.2.2.1, va_AO.moved hW.alike h.2.2.2.2.1, va_AO.moved hW.alike h.2.2.2.2.2.1, va_AO.moved hW.alike h.2.2.2.2.2.2.1, va_AO.moved hW.alike h.2.2.2.2.2.2.2⟩
theorem KX.calling {D : va_G} {aC : Nat → ClassId} {U : State} (g : JFrame) (mk : MethodId) (a : Array Value) (h : KX D aC U) : KX D aC (U.calling g mk a) :=
  ⟨va_K.moved (u := U) (U := U.calling g mk a) (Vm.Alike.refl U.vm) h.1, va_Nw.same rfl (u := U) rfl h.2.1, va_Nw.same rfl (u := U) rfl h.2.2.1, va_Nw.same rfl (u := U) rfl h.2.2.2.1, va_AO.moved (Vm.Alike.refl U.vm) h.2.2.2.2.1, va_AO.moved (Vm.Alike.refl U.vm) h.2.2.2.2.2.1, va_AO.moved (Vm.Alike.refl U.vm) h.2.2.2.2.2.2.1, va_AO.moved (Vm.Alike.refl U.vm) h.2.2.2.2.2.2.2⟩
/-- a contract at one start: with these arguments, from the world w: it returns ov, the world is w' -/
def Ct (l : Launch) (D : va_G) (aC : Nat → ClassId) (b0 : Nat) (y : MethodName) (ws : List Cond) (rm : Room) (av : List Value) (w : Wd) (ov : Option Value) (w' : Wd) : Prop :=
  Met l y ws rm (va_Pc av (fun U => Mm D aC b0 w U.heap ∧ KX D aC U)) (fun _ st oc t => (oc = .returned ov ∧ Mm D aC b0 w' t.heap) ∧ va_F (fun q : Nat => b0 ≤ q) st t) rm.cells rm.slots (fun q : Nat => b0 ≤ q)
abbrev Gw : List Cond := wsL_law
theorem Gw_good : Gw.all goodWord = true := by decide +kernel
theorem gIn {x : Cond} {y : MethodName} {b : ByteArray} {n : Nat} {r : Option FieldType} (h : Cond.code y b n r ∈ Gw) : GoodIn (x :: Gw) (Cond.code y b n r :: Gw) := fun w hw => by
  rcases List.mem_cons.mp hw with rfl | hw
  · exact ⟨List.mem_cons_of_mem _ h, good_of_word (List.all_eq_true.mp Gw_good _ h)⟩
  · exact ⟨List.mem_cons_of_mem _ hw, good_of_word (List.all_eq_true.mp Gw_good _ hw)⟩
theorem gInL {y : MethodName} {b : ByteArray} {n : Nat} {r : Option FieldType} (h : Cond.code y b n r ∈ Gw) : GoodIn Gw (Cond.code y b n r :: Gw) := fun w hw => by
  rcases List.mem_cons.mp hw with rfl | hw
  · exact ⟨h, good_of_word (List.all_eq_true.mp Gw_good _ h)⟩
  · exact ⟨hw, good_of_word (List.all_eq_true.mp Gw_good _ hw)⟩
end
section
/-! ROWS: an instruction over the world as functions -/
def vOk (t : Nat) (v : Value) : Prop := match t with
  | 0 => ∃ x, v = .int x
  | 1 => ∃ x, v = .long x
  | 2 => ∃ r, v = va_rf r
  | _ => v = .int 0 ∨ v = .int 1
/-- a field that the code of 'own' names by its entry ix: the field k of class ci, of type t -/
def FL (own : String) (ix ci k t : Nat) (fin : Bool) : Prop := ∃ (C : String) (T : u_T) (N : Nat) (ty : Nat → FieldType), vwCl[ci]? = some (C, T, N) ∧ (∀ w ∈ u_ws C T N, w ∈ Gw) ∧ (∀ k, k < N → parseFieldDescriptor (T k).2.2.1 = some (ty k)) ∧ (∀ a, a < N → ∀ b, b < N → a ≠ b → (T a).2.1 ≠ (T b).2.1) ∧ k < N ∧ (fT ci)[k]? = some t ∧ Cond.fieldLink own ix C (T k).2.1 (T k).2.2.1 ∈ Gw ∧ (T k).1 = C ∧ (∀ v, vOk t v → narrow (ty k) v = v ∧ fits (ty k) v = true) ∧ (T k).2.2.2 = fin ∧ (fin = true → C = own) ∧ ci < 99
theorem vo_i : ∀ v, vOk 0 v → narrow .int v = v ∧ fits .int v = true := by rintro v ⟨x, rfl⟩; exact ⟨rfl, rfl⟩
theorem vo_l : ∀ v, vOk 1 v → narrow .long v = v ∧ fits .long v = true := by rintro v ⟨x, rfl⟩; exact ⟨rfl, rfl⟩
theorem vo_o (C : String) : ∀ v, vOk 2 v → narrow (.object C) v = v ∧ fits (.object C) v = true := by rintro v ⟨r, rfl⟩; cases r <;> exact ⟨rfl, rfl⟩
theorem vo_a (t : FieldType) : ∀ v, vOk 2 v → narrow (.array t) v = v ∧ fits (.array t) v = true := by rintro v ⟨r, rfl⟩; cases r <;> exact ⟨rfl, rfl⟩
theorem vo_z : ∀ v, vOk 3 v → narrow .boolean v = v ∧ fits .boolean v = true := by rintro v (rfl | rfl) <;> decide +kernel
/-- what a method's walk stands on -/
def Cx (D : va_G) (aC : Nat → ClassId) (p : Program) (s : State) (m : MethodId) (args : Array Value) (meth : Method) (c : Code) (cc : ByteArray) (own : String) (nL : Nat) (nm : String) (ret : Option FieldType) : Prop :=
  p.tables.exec = Jvm.exec ∧ c.code = cc ∧ c.maxLocals = nL ∧ s.vm.findClass own = some m.cls ∧ meth.locks = false ∧ meth.name = nm ∧ meth.sig.returnType = ret ∧ (∀ w ∈ Gw, w.before args s = true) ∧ KX D aC s
def Qr (D : va_G) (aC : Nat → ClassId) (b0 : Nat) (ov : Option Value) (w' : Wd) : Array Value → State → Outcome → State → Prop := fun _ st oc t => (oc = .returned ov ∧ Mm D aC b0 w' t.heap) ∧ va_F (fun q : Nat => b0 ≤ q) st t
abbrev Fb (b0 : Nat) : Nat → Prop := fun q => b0 ≤ q
theorem Mm.obj {D : va_G} {aC : Nat → ClassId} {b0 : Nat} {w : Wd} {H : Heap} (M : Mm D aC b0 w H) {a ci : Nat} (ha : wK w a = ci + 1) (hc : ci < 99) : (wl aC b0 w)[a - b0]? = some (a, .inr (ci, flds w a (fT ci))) := by
  obtain ⟨h0, h1⟩ := M.2.2.1 a (by omega)
  rw [wl_get h0 h1]
  unfold cellOf
  rw [if_pos (by omega), ha, Nat.add_sub_cancel]
theorem Mm.arr {D : va_G} {aC : Nat → ClassId} {b0 : Nat} {w : Wd} {H : Heap} (M : Mm D aC b0 w H) {a t : Nat} (ha : wK w a = 100 + t) : (wl aC b0 w)[a - b0]? = some (a, .inl (aC t, aRow w a t)) := by
  obtain ⟨h0, h1⟩ := M.2.2.1 a (by omega)
  rw [wl_get h0 h1]
  unfold cellOf
  rw [if_neg (by omega), ha, Nat.add_sub_cancel_left]
theorem Mm.upd {D : va_G} {aC : Nat → ClassId} {b0 : Nat} {w w' : Wd} {H H1 : Heap} {a : Nat} (M : Mm D aC b0 w H) (ha : wK w a ≠ 0) (hz : H1.size = H.size) (hn : wn w' = wn w) (hk : wK w' = wK w) (ho : ∀ b, b ≠ a → cellOf aC w' b = cellOf aC w b) (hP : va_P D vwCl ((wl aC b0 w).set (a - b0) (a, cellOf aC w' a)) H1) : Mm D aC b0 w' H1 := by
  obtain ⟨h0, h1⟩ := M.2.2.1 a ha
  rw [wl_set h0 hn ho] at hP
  exact ⟨by rw [hz, hn]; exact M.1, by rw [hn]; exact M.2.1, by rw [hk, hn]; exact M.2.2.1, hP⟩
theorem flds_get {w : Wd} {a k t : Nat} {ts : List Nat} (h : ts[k]? = some t) : (flds w a ts)[k]? = some (fV w a k t) := by
  unfold flds
  rw [List.getElem?_mapIdx, h]
  rfl
theorem flds_set {w w' : Wd} {a k t : Nat} {ts : List Nat} {v : Value} (h : ts[k]? = some t) (h1 : fV w' a k t = v) (h2 : ∀ j u, j ≠ k → fV w' a j u = fV w a j u) : flds w' a ts = (flds w a ts).set k v := by
  apply List.ext_getElem?
  intro i
  have hl : k < ts.length := (List.getElem?_eq_some_iff.mp h).1
  by_cases hi : i = k
  · subst hi
    rw [List.getElem?_set_self (by unfold flds; rw [List.length_mapIdx]; exact hl), flds_get h, h1]
  · rw [List.getElem?_set_ne (Ne.symm hi)]
    unfold flds
    rw [List.getElem?_mapIdx, List.getElem?_mapIdx]
    cases ts[i]? with
    | none => rfl
    | some u => simp only [Option.map_some]; rw [h2 i u hi]
theorem flds_oth {w w' : Wd} {b : Nat} (h : ∀ j u, fV w' b j u = fV w b j u) (ts : List Nat) : flds w' b ts = flds w b ts := by
  unfold flds
  congr 1
  funext k t
  exact h k t
theorem up2_s {α : Type} (f : Nat → Nat → α) (a k : Nat) (v : α) : up2 f a k v a = va_up (f a) k v := by simp [up2, va_up]
theorem up2_n {α : Type} (f : Nat → Nat → α) {a b : Nat} (k : Nat) (v : α) (h : b ≠ a) : up2 f a k v b = f b := by simp [up2, va_up, h]
theorem cell_oth {aC : Nat → ClassId} {w w' : Wd} {b : Nat} (hk : wK w' b = wK w b) (hN : wN w' b = wN w b) (hI : wI w' b = wI w b) (hL : wL w' b = wL w b) (hR : wR w' b = wR w b) : cellOf aC w' b = cellOf aC w b := by
  have hf : ∀ j u, fV w' b j u = fV w b j u := by
    intro j u
    unfold fV
    rw [hI, hL, hR]
  have hr : ∀ t, aRow w' b t = aRow w b t := by
    intro t
    unfold aRow
    rw [hN, hI, hL, hR]
  unfold cellOf
  rw [hk, flds_oth hf, hr]
theorem sI_oth {aC : Nat → ClassId} {w : Wd} {a k : Nat} {x : Int32} : ∀ b, b ≠ a → cellOf aC (sI w a k x) b = cellOf aC w b := fun b h => cell_oth rfl rfl (up2_n _ _ _ h) rfl rfl
theorem sL_oth {aC : Nat → ClassId} {w : Wd} {a k : Nat} {x : Int64} : ∀ b, b ≠ a → cellOf aC (sL w a k x) b = cellOf aC w b := fun b h => cell_oth rfl rfl rfl (up2_n _ _ _ h) rfl
theorem sR_oth {aC : Nat → ClassId} {w : Wd} {a k : Nat} {x : Option Nat} : ∀ b, b ≠ a → cellOf aC (sR w a k x) b = cellOf aC w b := fun b h => cell_oth rfl rfl rfl rfl (up2_n _ _ _ h)
theorem rI_oth {aC : Nat → ClassId} {w : Wd} {a : Nat} {x : Nat → Int32} : ∀ b, b ≠ a → cellOf aC (rI w a x) b = cellOf aC w b := fun b h => cell_oth rfl rfl (va_up_ne _ _ h) rfl rfl
theorem rL_oth {aC : Nat → ClassId} {w : Wd} {a : Nat} {x : Nat → Int64} : ∀ b, b ≠ a → cellOf aC (rL w a x) b = cellOf aC w b := fun b h => cell_oth rfl rfl rfl (va_up_ne _ _ h) rfl
theorem fV_sI {w : Wd} {a k t : Nat} {x : Int32} (ht : t = 0 ∨ t = 3) : fV (sI w a k x) a k t = .int x := by
  rcases ht with rfl | rfl <;> (show Value.int (up2 (wI w) a k x a k) = _; rw [up2_s]; simp [va_up])
theorem fV_sI' {w : Wd} {a k : Nat} {x : Int32} : ∀ j u, j ≠ k → fV (sI w a k x) a j u = fV w a j u := by
  intro j u h
  unfold fV
  rw [show wI (sI w a k x) a j = wI w a j by show up2 (wI w) a k x a j = _; rw [up2_s]; simp [va_up, h]]
  rfl
theorem fV_sL {w : Wd} {a k : Nat} {x : Int64} : fV (sL w a k x) a k 1 = .long x := by
  show Value.long (up2 (wL w) a k x a k) = _; rw [up2_s]; simp [va_up]
theorem fV_sL' {w : Wd} {a k : Nat} {x : Int64} : ∀ j u, j ≠ k → fV (sL w a k x) a j u = fV w a j u := by
  intro j u h
  unfold fV
  rw [show wL (sL w a k x) a j = wL w a j by show up2 (wL w) a k x a j = _; rw [up2_s]; simp [va_up, h]]
  rfl
theorem fV_sR {w : Wd} {a k : Nat} {x : Option Nat} : fV (sR w a k x) a k 2 = va_rf x := by
  show va_rf (up2 (wR w) a k x a k) = _; rw [up2_s]; simp [va_up]
theorem fV_sR' {w : Wd} {a k : Nat} {x : Option Nat} : ∀ j u, j ≠ k → fV (sR w a k x) a j u = fV w a j u := by
  intro j u h
  unfold fV
  rw [show wR (sR w a k x) a j = wR w a j by show up2 (wR w) a k x a j = _; rw [up2_s]; simp [va_up, h]]
  rfl
theorem cell_obj {aC : Nat → ClassId} {w : Wd} {a ci : Nat} (ha : wK w a = ci + 1) (hc : ci < 99) : cellOf aC w a = .inr (ci, flds w a (fT ci)) := by
  unfold cellOf
  rw [if_pos (by omega), ha, Nat.add_sub_cancel]
theorem cell_arr {aC : Nat → ClassId} {w : Wd} {a t : Nat} (ha : wK w a = 100 + t) : cellOf aC w a = .inl (aC t, aRow w a t) := by
  unfold cellOf
  rw [if_neg (by omega), ha, Nat.add_sub_cancel_left]
section QR
variable {l : Launch} {D : va_G} {aC : Nat → ClassId} {b0 : Nat} {p : Program} {e : Env} {R : Room} {s : State} {m : MethodId} {args : Array Value} {below : List Frame} {meth : Method} {c : Code} {cc : ByteArray} {own : String} {nL : Nat} {nm : String} {ret : Option FieldType} {w : Wd} {H : Heap} {locs : List Loc} {cells slots : Nat} {Q : State → Prop} {pc : Nat} {ls : Array Slot} {rest : List Value}
theorem q_get (X : Cx D aC p s m args meth c cc own nL nm ret) (M : Mm D aC b0 w H) {a ix ci k t : Nat} {fin : Bool} (fl : FL own ix ci k t fin) (ha : wK w a = ci + 1) {v : Value} (hv : fV w a k t = v) (hdg : decode cc pc = .ok (.getfield ix, 3))
    (kk : W p l e R s m args below meth c H locs cells slots Q (F0 m (pc + 3) ls (v :: rest))) : W p l e R s m args below meth c H locs cells slots Q (F0 m pc ls (va_rf (some a) :: rest)) := by
  obtain ⟨hx, hb, -, hown, -, -, -, hts, hK⟩ := X
  obtain ⟨C, T, N, ty, hc, hin, -, -, hk, hft, hl, hT, -, -, -, h99⟩ := fl
  subst hv
  exact va_get hx hb hts hin hown hK.1 M.2.2.2 (a - b0) (M.obj ha h99) hc k hk (hts _ hl) (fun x h => by rw [hT] at h; exact h) (flds_get hft) hdg kk
theorem q_putX (X : Cx D aC p s m args meth c cc own nL nm ret) (M : Mm D aC b0 w H) (hS : va_S (Fb b0) s.heap H locs) {a ix ci k t : Nat} {fin : Bool} (fl : FL own ix ci k t fin) (hfin : fin = false ∨ nm = "<init>") (ha : wK w a = ci + 1) {v : Value} (hv : vOk t v) {w' : Wd} (hn : wn w' = wn w) (hk' : wK w' = wK w) (ho : ∀ b, b ≠ a → cellOf aC w' b = cellOf aC w b) (hf : ∀ ts : List Nat, ts[k]? = some t → flds w' a ts = (flds w a ts).set k v) (hdg : decode cc pc = .ok (.putfield ix, 3))
    (kk : ∀ (H1 : Heap) (locs1 : List Loc), Mm D aC b0 w' H1 → va_S (Fb b0) s.heap H1 locs1 → W p l e R s m args below meth c H1 locs1 cells slots Q (F0 m (pc + 3) ls rest)) : W p l e R s m args below meth c H locs cells slots Q (F0 m pc ls (v :: va_rf (some a) :: rest)) := by
  obtain ⟨hx, hb, -, hown, -, hnm, -, hts, hK⟩ := X
  obtain ⟨C, T, N, ty, hc, hin, hty, hne, hk, hft, hl, hT, hvo, hfi, hfo, h99⟩ := fl
  have hlen : k < (flds w a (fT ci)).length := by
    have := (List.getElem?_eq_some_iff.mp (flds_get (w := w) (a := a) hft)).1
    exact this
  have e1 : (a, (Sum.inr (ci, (flds w a (fT ci)).set k v) : va_E)) = (a, cellOf aC w' a) := by
    rw [cell_obj (by rw [hk']; exact ha) h99, hf _ hft]
  have done : ∀ (H1 : Heap) (locs1 : List Loc), H1.size = H.size → va_P D vwCl ((wl aC b0 w).set (a - b0) (a, .inr (ci, (flds w a (fT ci)).set k v))) H1 → va_S (Fb b0) s.heap H1 locs1 → W p l e R s m args below meth c H1 locs1 cells slots Q (F0 m (pc + 3) ls rest) := by
    intro H1 locs1 hz hP hS1
    rw [e1] at hP
    exact kk H1 locs1 (M.upd (by omega) hz hn hk' ho hP) hS1
  have hap := va_apart (own := own) hts hin ty hty hne hK.1 hc
  obtain ⟨r, h1, cell, q1, q2, q3, q4⟩ := M.2.2.2 (a - b0) _ (M.obj ha h99)
  have hr : r = (C, T, N) := Option.some.inj (h1.symm.trans hc)
  subst hr
  obtain ⟨hSl, hfc, kC, hkC, hkind⟩ := hK.1.1 ci _ hc
  obtain ⟨cf, kf, fi, f, hi, hsl⟩ := hSl k hk
  have hlay := hts _ (hin _ (u_in_lay hk))
  unfold u_lay at hlay
  have hst := (u_facts hfc hkC (u_lays hts hin hk) hi).1
  have hi2 : s.fieldFound? C (T k).2.1 (T k).2.2.1 = some (cf, kf, fi, f) := by rw [← hT]; exact hi
  have fin' : ∀ (H' : Heap), H'[a]? = some (cell.setSlot f.slot v) → H'.size = H.size → (∀ q, q ≠ a → H'[q]? = H[q]?) → W p l e R s m args below meth c H' (locs ++ [⟨a, f.slot⟩]) cells slots Q (F0 m (pc + 3) ls rest) := by
    intro H' g1 g2 g3
    rw [hsl] at g1 ⊢
    exact done H' _ g2 (M.2.2.2.set wl_D (M.obj ha h99) ⟨_, hc, t_OB.to (V := updV (vp_V (flds w a (fT ci))) k v) ⟨_, g1, q2, q3, t_set q4 hap hk v⟩ (fun j _ => vp_updV_set hlen v j)⟩ g3) (hS.put g2 g3 ((M.2.2.1 a (by omega)).1))
  by_cases hb2 : fin = true
  · rw [if_pos (by rw [hfi]; exact hb2)] at hlay
    have hCo := hfo hb2
    subst hCo
    have hinit : meth.name = "<init>" := by
      rcases hfin with h | h
      · rw [hb2] at h; cases h
      · rw [hnm]; exact h
    have hcf : m.cls = cf := by
      obtain ⟨_, _, c', _, _, _, -, -, hf', -, -, -, hown2, -⟩ := Cond.laysFinal_spec hlay
      have e1 : c' = cf := by have := hi.symm.trans hf'; simp at this; exact this.1.symm
      rw [hT] at hown2
      rw [← e1]; exact Option.some.inj (hown.symm.trans hown2)
    have h6 := u_fits hfc hkC hkind (Or.inr hlay) hi (hty k hk) (hvo v hv).1 (hvo v hv).2
    exact W.putFinK hx hb hown (hts _ hl) hi2 hst hcf hinit (by rw [q2]; exact h6) q1 q3 (by rw [hsl]; exact k2_hasslot (q4 k hk)) rfl rfl hdg fin'
  · rw [if_neg (by rw [hfi]; exact hb2)] at hlay
    have h6 := u_store hfc hkC hkind hlay hi (hty k hk) (hvo v hv).1 (hvo v hv).2
    exact W.putK hx hb (f := f) ⟨hown, hts _ hl, ⟨_, _, _, hi2⟩, hst⟩ (by rw [q2]; exact h6) q1 q3 (by rw [hsl]; exact k2_hasslot (q4 k hk)) rfl rfl hdg fin'
theorem q_putI (X : Cx D aC p s m args meth c cc own nL nm ret) (M : Mm D aC b0 w H) (hS : va_S (Fb b0) s.heap H locs) {a ix ci k : Nat} {fin : Bool} (fl : FL own ix ci k 0 fin) (hfin : fin = false ∨ nm = "<init>") (ha : wK w a = ci + 1) {x : Int32} (hdg : decode cc pc = .ok (.putfield ix, 3))
    (kk : ∀ (H1 : Heap) (locs1 : List Loc), Mm D aC b0 (sI w a k x) H1 → va_S (Fb b0) s.heap H1 locs1 → W p l e R s m args below meth c H1 locs1 cells slots Q (F0 m (pc + 3) ls rest)) : W p l e R s m args below meth c H locs cells slots Q (F0 m pc ls (.int x :: va_rf (some a) :: rest)) :=
  q_putX (w' := sI w a k x) X M hS fl hfin ha ⟨x, rfl⟩ rfl rfl sI_oth (fun _ h => flds_set h (fV_sI (Or.inl rfl)) fV_sI') hdg kk
theorem q_putZ (X : Cx D aC p s m args meth c cc own nL nm ret) (M : Mm D aC b0 w H) (hS : va_S (Fb b0) s.heap H locs) {a ix ci k : Nat} {fin : Bool} (fl : FL own ix ci k 3 fin) (hfin : fin = false ∨ nm = "<init>") (ha : wK w a = ci + 1) {x : Int32} (hx : x = 0 ∨ x = 1) (hdg : decode cc pc = .ok (.putfield ix, 3))
    (kk : ∀ (H1 : Heap) (locs1 : List Loc), Mm D aC b0 (sI w a k x) H1 → va_S (Fb b0) s.heap H1 locs1 → W p l e R s m args below meth c H1 locs1 cells slots Q (F0 m (pc + 3) ls rest)) : W p l e R s m args below meth c H locs cells slots Q (F0 m pc ls (.int x :: va_rf (some a) :: rest)) :=
  q_putX (w' := sI w a k x) X M hS fl hfin ha (by rcases hx with rfl | rfl; exact Or.inl rfl; exact Or.inr rfl) rfl rfl sI_oth (fun _ h => flds_set h (fV_sI (Or.inr rfl)) fV_sI') hdg kk
theorem q_putL (X : Cx D aC p s m args meth c cc own nL nm ret) (M : Mm D aC b0 w H) (hS : va_S (Fb b0) s.heap H locs) {a ix ci k : Nat} {fin : Bool} (fl : FL own ix ci k 1 fin) (hfin : fin = false ∨ nm = "<init>") (ha : wK w a = ci + 1) {x : Int64} (hdg : decode cc pc = .ok (.putfield ix, 3))
    (kk : ∀ (H1 : Heap) (locs1 : List Loc), Mm D aC b0 (sL w a k x) H1 → va_S (Fb b0) s.heap H1 locs1 → W p l e R s m args below meth c H1 locs1 cells slots Q (F0 m (pc + 3) ls rest)) : W p l e R s m args below meth c H locs cells slots Q (F0 m pc ls (.long x :: va_rf (some a) :: rest)) :=
  q_putX (w' := sL w a k x) X M hS fl hfin ha ⟨x, rfl⟩ rfl rfl sL_oth (fun _ h => flds_set h fV_sL fV_sL') hdg kk
theorem q_putR (X : Cx D aC p s m args meth c cc own nL nm ret) (M : Mm D aC b0 w H) (hS : va_S (Fb b0) s.heap H locs) {a ix ci k : Nat} {fin : Bool} (fl : FL own ix ci k 2 fin) (hfin : fin = false ∨ nm = "<init>") (ha : wK w a = ci + 1) {x : Option Nat} (hdg : decode cc pc = .ok (.putfield ix, 3))
    (kk : ∀ (H1 : Heap) (locs1 : List Loc), Mm D aC b0 (sR w a k x) H1 → va_S (Fb b0) s.heap H1 locs1 → W p l e R s m args below meth c H1 locs1 cells slots Q (F0 m (pc + 3) ls rest)) : W p l e R s m args below meth c H locs cells slots Q (F0 m pc ls (va_rf x :: va_rf (some a) :: rest)) :=
  q_putX (w' := sR w a k x) X M hS fl hfin ha ⟨x, rfl⟩ rfl rfl sR_oth (fun _ h => flds_set h fV_sR fV_sR') hdg kk
end QR
end
section
/-! ROWS: arrays, new cells, calls, ends -/
section QA
variable {l : Launch} {D : va_G} {aC : Nat → ClassId} {b0 : Nat} {p : Program} {e : Env} {R : Room} {s : State} {m : MethodId} {args : Array Value} {below : List Frame} {meth : Method} {c : Code} {cc : ByteArray} {own : String} {nL : Nat} {nm : String} {ret : Option FieldType} {w : Wd} {H : Heap} {locs : List Loc} {cells slots : Nat} {Q : State → Prop} {pc : Nat} {ls : Array Slot} {rest : List Value}
theorem q_iald (X : Cx D aC p s m args meth c cc own nL nm ret) (M : Mm D aC b0 w H) {a : Nat} (ha : wK w a = 100) {i : Int32} (hin : vp_in i (wN w a)) (hdg : decode cc pc = .ok (.iaload, 1))
    (kk : W p l e R s m args below meth c H locs cells slots Q (F0 m (pc + 1) ls (.int (wI w a i.toNatClampNeg) :: rest))) : W p l e R s m args below meth c H locs cells slots Q (F0 m pc ls (.int i :: va_rf (some a) :: rest)) :=
  va_iald X.1 X.2.1 X.2.2.2.2.2.2.2.2.1 M.2.2.2 (a - b0) 0 (M.arr (t := 0) ha) rfl hin hdg kk
theorem q_lald (X : Cx D aC p s m args meth c cc own nL nm ret) (M : Mm D aC b0 w H) {a : Nat} (ha : wK w a = 101) {i : Int32} (hin : vp_in i (wN w a)) (hdg : decode cc pc = .ok (.laload, 1))
    (kk : W p l e R s m args below meth c H locs cells slots Q (F0 m (pc + 1) ls (.long (wL w a i.toNatClampNeg) :: rest))) : W p l e R s m args below meth c H locs cells slots Q (F0 m pc ls (.int i :: va_rf (some a) :: rest)) :=
  va_lald X.1 X.2.1 X.2.2.2.2.2.2.2.2.1 M.2.2.2 (a - b0) 1 (M.arr (t := 1) ha) rfl hin hdg kk
theorem q_zald (X : Cx D aC p s m args meth c cc own nL nm ret) (M : Mm D aC b0 w H) {a : Nat} (ha : wK w a = 102) {i : Int32} (hin : vp_in i (wN w a)) (hdg : decode cc pc = .ok (.baload, 1))
    (kk : W p l e R s m args below meth c H locs cells slots Q (F0 m (pc + 1) ls (.int (wI w a i.toNatClampNeg) :: rest))) : W p l e R s m args below meth c H locs cells slots Q (F0 m pc ls (.int i :: va_rf (some a) :: rest)) :=
  va_zald X.1 X.2.1 X.2.2.2.2.2.2.2.2.1 M.2.2.2 (a - b0) 2 (M.arr (t := 2) ha) rfl hin hdg kk
/-- an array of references, its kind t, its element's class -/
def AR (t : Nat) (C : String) (ci : Nat) : Prop := (t = 3 ∧ C = RX0 ∧ ci = 0) ∨ (t = 4 ∧ C = RX1 ∧ ci = 1) ∨ (t = 5 ∧ C = RX2 ∧ ci = 2) ∨ (t = 6 ∧ C = RX4 ∧ ci = 4)
theorem AR.ty {t : Nat} {C : String} {ci : Nat} (h : AR t C ci) : (tyL aC)[t]? = some (aC t, .object C) := by
  rcases h with ⟨rfl, rfl, rfl⟩ | ⟨rfl, rfl, rfl⟩ | ⟨rfl, rfl, rfl⟩ | ⟨rfl, rfl, rfl⟩ <;> rfl
theorem AR.row {t : Nat} {C : String} {ci : Nat} (h : AR t C ci) (w : Wd) (a : Nat) : aRow w a t = (wN w a, .inr (.inr (.inr (.inr (wR w a))))) := by
  rcases h with ⟨rfl, rfl, rfl⟩ | ⟨rfl, rfl, rfl⟩ | ⟨rfl, rfl, rfl⟩ | ⟨rfl, rfl, rfl⟩ <;> rfl
theorem AR.cl {t : Nat} {C : String} {ci : Nat} (h : AR t C ci) : ∃ r : vw_C, vwCl[ci]? = some r ∧ r.1 = C ∧ ci < 99 := by
  rcases h with ⟨rfl, rfl, rfl⟩ | ⟨rfl, rfl, rfl⟩ | ⟨rfl, rfl, rfl⟩ | ⟨rfl, rfl, rfl⟩ <;> exact ⟨_, rfl, rfl, by decide⟩
theorem q_aald (X : Cx D aC p s m args meth c cc own nL nm ret) (M : Mm D aC b0 w H) {a t ci : Nat} {C : String} (hA : AR t C ci) (ha : wK w a = 100 + t) {i : Int32} (hin : vp_in i (wN w a)) (hdg : decode cc pc = .ok (.aaload, 1))
    (kk : W p l e R s m args below meth c H locs cells slots Q (F0 m (pc + 1) ls (va_rf (wR w a i.toNatClampNeg) :: rest))) : W p l e R s m args below meth c H locs cells slots Q (F0 m pc ls (.int i :: va_rf (some a) :: rest)) :=
  va_aldq X.1 X.2.1 X.2.2.2.2.2.2.2.2.1 M.2.2.2 (a - b0) t (by rw [M.arr ha, hA.row]) hA.ty hin hdg kk
theorem q_alen (X : Cx D aC p s m args meth c cc own nL nm ret) (M : Mm D aC b0 w H) {a t : Nat} (ht : t < 7) (ha : wK w a = 100 + t) (hdg : decode cc pc = .ok (.arraylength, 1))
    (kk : W p l e R s m args below meth c H locs cells slots Q (F0 m (pc + 1) ls (.int (nI (wN w a)) :: rest))) : W p l e R s m args below meth c H locs cells slots Q (F0 m pc ls (va_rf (some a) :: rest)) := by
  have hr : Int32.ofNat (aRow w a t).1 = nI (wN w a) := by
    unfold aRow
    split <;> rfl
  obtain ⟨q, hq⟩ : ∃ q, (tyL aC)[t]? = some (aC t, q) := by
    match t, ht with
    | 0, _ => exact ⟨_, rfl⟩
    | 1, _ => exact ⟨_, rfl⟩
    | 2, _ => exact ⟨_, rfl⟩
    | 3, _ => exact ⟨_, rfl⟩
    | 4, _ => exact ⟨_, rfl⟩
    | 5, _ => exact ⟨_, rfl⟩
    | 6, _ => exact ⟨_, rfl⟩
  exact va_alen X.1 X.2.1 X.2.2.2.2.2.2.2.2.1 M.2.2.2 (a - b0) t (M.arr ha) hq hr hdg kk
theorem upd_up (f : Nat → Int32) (k : Nat) (x : Int32) : upd f k x = va_up f k x := by
  funext j
  by_cases h : j = k
  · subst h; rw [pk_us]; simp [va_up]
  · rw [pk_un h]; simp [va_up, h]
theorem updL_up (f : Nat → Int64) (k : Nat) (x : Int64) : vp_updL f k x = va_up f k x := by
  funext j
  by_cases h : j = k
  · subst h; rw [pk_uLs]; simp [va_up]
  · rw [pk_uLn h]; simp [va_up, h]
theorem sI_row (w : Wd) (a k : Nat) (x : Int32) : wI (sI w a k x) a = va_up (wI w a) k x := up2_s _ _ _ _
theorem sL_row (w : Wd) (a k : Nat) (x : Int64) : wL (sL w a k x) a = va_up (wL w a) k x := up2_s _ _ _ _
theorem sR_row (w : Wd) (a k : Nat) (x : Option Nat) : wR (sR w a k x) a = va_up (wR w a) k x := up2_s _ _ _ _
/-- behind a store in an array of the world -/
theorem Mm.ast {H1 : Heap} {w' : Wd} {a t : Nat} (M : Mm D aC b0 w H) (ha : wK w a = 100 + t) (z : H1.size = H.size) (oq : ∀ q, q ≠ a → H1[q]? = H[q]?) (hn : wn w' = wn w) (hk : wK w' = wK w) (ho : ∀ b, b ≠ a → cellOf aC w' b = cellOf aC w b) (e : H1[a]? = some (vp_cell (aC t) (aRow w' a t))) : Mm D aC b0 w' H1 := by
  refine M.upd (a := a) (by omega) z hn hk ho (M.2.2.2.set wl_D (M.arr ha) ?_ oq)
  rw [cell_arr (t := t) (by rw [hk]; exact ha)]
  exact e
theorem q_iast (X : Cx D aC p s m args meth c cc own nL nm ret) (M : Mm D aC b0 w H) (hS : va_S (Fb b0) s.heap H locs) {a : Nat} (ha : wK w a = 100) {i x : Int32} (hin : vp_in i (wN w a)) (hdg : decode cc pc = .ok (.iastore, 1))
    (kk : ∀ (H1 : Heap) (locs1 : List Loc), Mm D aC b0 (sI w a i.toNatClampNeg x) H1 → va_S (Fb b0) s.heap H1 locs1 → W p l e R s m args below meth c H1 locs1 cells slots Q (F0 m (pc + 1) ls rest)) : W p l e R s m args below meth c H locs cells slots Q (F0 m pc ls (.int x :: .int i :: va_rf (some a) :: rest)) := by
  refine W.iast X.1 X.2.1 (M.2.2.2 _ _ (M.arr (t := 0) ha)) ((X.2.2.2.2.2.2.2.2.1.2 0 _ rfl).1 (wN w a) (fun j => .int (wI w a j))) (fun q => by cases q) (by show ¬ (i < 0 ∨ (arrV _ _ _).slots.size ≤ _); rw [arrV_size]; exact hin) rfl rfl hdg fun H1 e1 z oq => ?_
  refine kk H1 _ (M.ast (t := 0) ha z oq rfl rfl sI_oth ?_) (hS.put z oq (M.2.2.1 a (by omega)).1)
  rw [e1]
  show some ((arrV (aC 0) (wN w a) (fun j => .int (wI w a j))).setSlot _ _) = some (arrV (aC 0) (wN w a) (fun j => .int (wI (sI w a i.toNatClampNeg x) a j)))
  rw [sI_row, arrV_store]
  congr 2
  funext q
  by_cases h : q = i.toNatClampNeg <;> simp [updV, va_up, h]
theorem q_zast (X : Cx D aC p s m args meth c cc own nL nm ret) (M : Mm D aC b0 w H) (hS : va_S (Fb b0) s.heap H locs) {a : Nat} (ha : wK w a = 102) {i x : Int32} (hx : x = 0 ∨ x = 1) (hin : vp_in i (wN w a)) (hdg : decode cc pc = .ok (.bastore, 1))
    (kk : ∀ (H1 : Heap) (locs1 : List Loc), Mm D aC b0 (sI w a i.toNatClampNeg x) H1 → va_S (Fb b0) s.heap H1 locs1 → W p l e R s m args below meth c H1 locs1 cells slots Q (F0 m (pc + 1) ls rest)) : W p l e R s m args below meth c H locs cells slots Q (F0 m pc ls (.int x :: .int i :: va_rf (some a) :: rest)) := by
  refine W.zast X.1 X.2.1 (M.2.2.2 _ _ (M.arr (t := 2) ha)) ((X.2.2.2.2.2.2.2.2.1.2 2 _ rfl).1 (wN w a) (fun j => .int (wI w a j))) (fun q => by cases q) (by show ¬ (i < 0 ∨ (arrV _ _ _).slots.size ≤ _); rw [arrV_size]; exact hin) rfl rfl hdg fun H1 e1 z oq => ?_
  refine kk H1 _ (M.ast (t := 2) ha z oq rfl rfl sI_oth ?_) (hS.put z oq (M.2.2.1 a (by omega)).1)
  rw [e1, show narrow .boolean (.int x) = .int x by rcases hx with rfl | rfl <;> decide +kernel]
  show some ((arrV (aC 2) (wN w a) (fun j => .int (wI w a j))).setSlot _ _) = some (arrV (aC 2) (wN w a) (fun j => .int (wI (sI w a i.toNatClampNeg x) a j)))
  rw [sI_row, arrV_store]
  congr 2
  funext q
  by_cases h : q = i.toNatClampNeg <;> simp [updV, va_up, h]
theorem q_last (X : Cx D aC p s m args meth c cc own nL nm ret) (M : Mm D aC b0 w H) (hS : va_S (Fb b0) s.heap H locs) {a : Nat} (ha : wK w a = 101) {i : Int32} {x : Int64} (hin : vp_in i (wN w a)) (hdg : decode cc pc = .ok (.lastore, 1))
    (kk : ∀ (H1 : Heap) (locs1 : List Loc), Mm D aC b0 (sL w a i.toNatClampNeg x) H1 → va_S (Fb b0) s.heap H1 locs1 → W p l e R s m args below meth c H1 locs1 cells slots Q (F0 m (pc + 1) ls rest)) : W p l e R s m args below meth c H locs cells slots Q (F0 m pc ls (.long x :: .int i :: va_rf (some a) :: rest)) := by
  refine W.last X.1 X.2.1 (M.2.2.2 _ _ (M.arr (t := 1) ha)) ((X.2.2.2.2.2.2.2.2.1.2 1 _ rfl).1 (wN w a) (fun j => .long (wL w a j))) (fun q => by cases q) (by show ¬ (i < 0 ∨ (arrV _ _ _).slots.size ≤ _); rw [arrV_size]; exact hin) rfl rfl hdg fun H1 e1 z oq => ?_
  refine kk H1 _ (M.ast (t := 1) ha z oq rfl rfl sL_oth ?_) (hS.put z oq (M.2.2.1 a (by omega)).1)
  rw [e1]
  show some ((arrV (aC 1) (wN w a) (fun j => .long (wL w a j))).setSlot _ _) = some (arrV (aC 1) (wN w a) (fun j => .long (wL (sL w a i.toNatClampNeg x) a j)))
  rw [sL_row, arrV_store]
  congr 2
  funext q
  by_cases h : q = i.toNatClampNeg <;> simp [updV, va_up, h]
/-- null, or a cell of that kind -/
def okr (w : Wd) (r : Option Nat) (kd : Nat) : Prop := r = none ∨ ∃ v, r = some v ∧ wK w v = kd
theorem q_aast (X : Cx D aC p s m args meth c cc own nL nm ret) (M : Mm D aC b0 w H) (hS : va_S (Fb b0) s.heap H locs) {a t ci : Nat} {C : String} (hA : AR t C ci) (ha : wK w a = 100 + t) {i : Int32} {x : Option Nat} (hx : okr w x (ci + 1)) (hin : vp_in i (wN w a)) (hdg : decode cc pc = .ok (.aastore, 1))
    (kk : ∀ (H1 : Heap) (locs1 : List Loc), Mm D aC b0 (sR w a i.toNatClampNeg x) H1 → va_S (Fb b0) s.heap H1 locs1 → W p l e R s m args below meth c H1 locs1 cells slots Q (F0 m (pc + 1) ls rest)) : W p l e R s m args below meth c H locs cells slots Q (F0 m pc ls (va_rf x :: .int i :: va_rf (some a) :: rest)) := by
  have hlt : i.toNatClampNeg < wN w a := Nat.not_le.mp fun q => hin (Or.inr q)
  have h0 : ¬ i < 0 := fun q => hin (Or.inl q)
  have hcell : H[a]? = some (arrV (aC t) (wN w a) (fun j => va_rf (wR w a j))) := by
    have h1 := M.2.2.2 _ _ (M.arr ha)
    rw [hA.row] at h1
    exact h1
  have key : ∀ H1 : Heap, H1[a]? = some ((arrV (aC t) (wN w a) (fun j => va_rf (wR w a j))).setSlot i.toNatClampNeg (va_rf x)) → H1.size = H.size → (∀ q, q ≠ a → H1[q]? = H[q]?) → Mm D aC b0 (sR w a i.toNatClampNeg x) H1 := by
    intro H1 e1 z oq
    refine M.ast ha z oq rfl rfl sR_oth ?_
    rw [e1, hA.row]
    show some _ = some (arrV (aC t) (wN w a) (fun j => va_rf (wR (sR w a i.toNatClampNeg x) a j)))
    rw [sR_row, arrV_store]
    congr 2
    funext q
    by_cases h : q = i.toNatClampNeg <;> simp [updV, va_up, h]
  have hArr : s.isArrayOf (arrV (aC t) (wN w a) (fun j => va_rf (wR w a j))) (.object C) := (X.2.2.2.2.2.2.2.2.1.2 t _ hA.ty).1 (wN w a) (fun j => va_rf (wR w a j))
  rcases hx with rfl | ⟨v, rfl, hv⟩
  · exact va_WaastN (C := C) X.1 X.2.1 hcell hArr (fun h => by cases h) (by show ¬ (i < 0 ∨ (arrV _ _ _).slots.size ≤ _); rw [arrV_size]; exact hin) rfl rfl hdg fun H1 e1 z oq => kk H1 _ (key H1 e1 z oq) (hS.put z oq (M.2.2.1 a (by omega)).1)
  · obtain ⟨r, hr, hr1, h99⟩ := hA.cl
    subst hr1
    obtain ⟨r', hr', cellV, g1, g2, g3, -⟩ := M.2.2.2 _ _ (M.obj hv h99)
    have hcls := (X.2.2.2.2.2.2.2.2.1.1 ci r hr).2
    obtain ⟨kA, comp, k1, k2, k3, -⟩ := (X.2.2.2.2.2.2.2.2.1.2 t _ hA.ty).2
    have hcomp : comp = D.1 ci := Option.some.inj (k3.symm.trans hcls.1)
    subst hcomp
    have hcls' := hcls
    obtain ⟨kC, hkC, -⟩ := hcls.2
    exact W.aast X.1 X.2.1 hcell (fun q h => by cases h) (fun h => by cases h) k1 k2 rfl hkC ⟨h0, by show _ < (arrV _ _ _).slots.size; rw [arrV_size]; exact hlt⟩ g1 (fun q h => by rw [g3] at h; cases h) (by rw [g2]; exact hkC) (by rw [g2]; exact va_assign hcls') rfl rfl hdg fun H1 e1 z oq => kk H1 _ (key H1 e1 z oq) (hS.put z oq (M.2.2.1 a (by omega)).1)
/-- behind a new cell -/
theorem Mm.push {H1 : Heap} {kd n : Nat} (M : Mm D aC b0 w H) (z : H1.size = H.size + 1) (o1 : ∀ q, q < H.size → H1[q]? = H[q]?) (he : va_at D vwCl (wn w, cellOf aC (newC w kd n) (wn w)) H1) : Mm D aC b0 (newC w kd n) H1 := by
  have hn : wn (newC w kd n) = wn w + 1 := rfl
  refine ⟨by rw [z, hn, M.1], by rw [hn]; exact Nat.le_succ_of_le M.2.1, fun a ha => ?_, ?_⟩
  · by_cases h : a = wn w
    · subst h; rw [hn]; exact ⟨M.2.1, Nat.lt_succ_self _⟩
    · have h2 : wK (newC w kd n) a = wK w a := va_up_ne _ _ h
      rw [h2] at ha
      obtain ⟨h3, h4⟩ := M.2.2.1 a ha
      rw [hn]; exact ⟨h3, Nat.lt_succ_of_lt h4⟩
  · rw [← wl_push M.2.1 hn (fun b hb => cell_oth (va_up_ne _ _ (Nat.ne_of_lt hb)) (va_up_ne _ _ (Nat.ne_of_lt hb)) (va_up_ne _ _ (Nat.ne_of_lt hb)) (va_up_ne _ _ (Nat.ne_of_lt hb)) (va_up_ne _ _ (Nat.ne_of_lt hb)))]
    refine va_P.app (M.2.2.2.kept fun k x hx => o1 x.1 ((M.2.2.2 k x hx).lt)) (fun k x hx => ?_)
    have hz : k < 1 := (List.getElem?_eq_some_iff.mp hx).1
    rw [show k = 0 by omega] at hx
    cases hx
    exact he
theorem newS {H1 : Heap} (hS : va_S (Fb b0) s.heap H locs) (z : H1.size = H.size + 1) (o1 : ∀ q, q < H.size → H1[q]? = H[q]?) : va_S (Fb b0) s.heap H1 locs :=
  ⟨Nat.le_trans hS.1 (by omega), fun x h1 h2 => (o1 x (Nat.lt_of_lt_of_le h1 hS.1)).trans (hS.2.1 x h1 h2), hS.2.2⟩
/-- a class that 'own' names by its entry ix -/
def CL (own : String) (ix ci N : Nat) : Prop := ∃ (C : String) (T : u_T) (ty : Nat → FieldType), vwCl[ci]? = some (C, T, N) ∧ (∀ w ∈ u_ws C T N, w ∈ Gw) ∧ (∀ k, k < N → parseFieldDescriptor (T k).2.2.1 = some (ty k)) ∧ Cond.classLink own ix C ∈ Gw ∧ Cond.instantiable C N ∈ Gw ∧ Cond.initialized C ∈ Gw ∧ (∀ j, j < N → defaultValue (ty j) = vp_V ((fT ci).map (fun t => match t with | 1 => Value.long 0 | 2 => Value.null | _ => Value.int 0)) j) ∧ ci < 99
theorem q_new (X : Cx D aC p s m args meth c cc own nL nm ret) (M : Mm D aC b0 w H) (hS : va_S (Fb b0) s.heap H locs) {ix ci N : Nat} (hC : CL own ix ci N) (hcells : cells + 1 ≤ R.cells) (hslots : slots + N ≤ R.slots) (hdg : decode cc pc = .ok (.new ix, 3))
    (kk : ∀ (H1 : Heap), Mm D aC b0 (newC w (ci + 1) 0) H1 → va_S (Fb b0) s.heap H1 locs → W p l e R s m args below meth c H1 locs (cells + 1) (slots + N) Q (F0 m (pc + 3) ls (va_rf (some (wn w)) :: rest))) : W p l e R s m args below meth c H locs cells slots Q (F0 m pc ls rest) := by
  obtain ⟨hx, hb, -, hown, -, -, -, hts, hK⟩ := X
  obtain ⟨C, T, ty, hc, hin, hty, h1, h2, h3, hd, h99⟩ := hC
  have hKn := hK.1.1 ci _ hc
  refine W.newcK hx hb hown (hts _ h1) (hts _ h2) (hts _ h3) rfl hdg hcells hslots hKn.2.1 M.1 fun H1 kC hkC e1 z1 o1 => ?_
  rw [← M.1] at e1 z1 o1
  refine kk H1 (M.push z1 o1 ?_) (newS hS z1 o1)
  rw [cell_obj (ci := ci) (by show va_up (wK w) (wn w) (ci + 1) (wn w) = ci + 1; simp [va_up]) h99]
  refine ⟨_, hc, ?_⟩
  rw [← M.1]
  refine (u_born ty hts hin hKn hkC e1 hty).to (fun j hj => ?_)
  rw [hd j hj]
  unfold vp_V
  rw [List.getD_eq_getElem?_getD, List.getD_eq_getElem?_getD, List.getElem?_map]
  cases ht : (fT ci)[j]? with
  | none =>
    rw [List.getElem?_eq_none]
    · rfl
    · unfold flds; rw [List.length_mapIdx]; exact List.getElem?_eq_none_iff.mp ht
  | some t =>
    rw [flds_get ht]
    have hI : wI (newC w (ci + 1) 0) H.size j = 0 := by rw [M.1]; show va_up (wI w) (wn w) (fun _ => 0) (wn w) j = 0; simp [va_up]
    have hL : wL (newC w (ci + 1) 0) H.size j = 0 := by rw [M.1]; show va_up (wL w) (wn w) (fun _ => 0) (wn w) j = 0; simp [va_up]
    have hR : wR (newC w (ci + 1) 0) H.size j = none := by rw [M.1]; show va_up (wR w) (wn w) (fun _ => none) (wn w) j = none; simp [va_up]
    simp only [Option.map_some, Option.getD_some]
    unfold fV
    rw [hI, hL, hR]
    rcases t with _ | _ | _ | n <;> rfl
end QA
end
section
/-! ROWS: new arrays, references in locals, null tests, calls, ends -/
section QC
variable {l : Launch} {D : va_G} {aC : Nat → ClassId} {b0 : Nat} {p : Program} {e : Env} {R : Room} {s : State} {m : MethodId} {args : Array Value} {below : List Frame} {meth : Method} {c : Code} {cc : ByteArray} {own : String} {nL : Nat} {nm : String} {ret : Option FieldType} {w : Wd} {H : Heap} {locs : List Loc} {cells slots : Nat} {Q : State → Prop} {pc : Nat} {ls : Array Slot} {rest : List Value}
/-- a primitive array's kind -/
def AP (t : Nat) (at_ : ArrayType) : Prop := (t = 0 ∧ at_ = .int) ∨ (t = 1 ∧ at_ = .long) ∨ (t = 2 ∧ at_ = .boolean)
theorem q_newa (X : Cx D aC p s m args meth c cc own nL nm ret) (M : Mm D aC b0 w H) (hS : va_S (Fb b0) s.heap H locs) {t : Nat} {at_ : ArrayType} (hA : AP t at_) (hG : Cond.arrayClass (newarray.typeOf at_) ∈ Gw) {n : Int32} {bd : Nat} (hn : ¬ n < 0) (hbd : n.toNatClampNeg ≤ bd) (hsm : bd ≤ 65536) (hcells : cells + 1 ≤ R.cells) (hslots : slots + bd ≤ R.slots) (hdg : decode cc pc = .ok (.newarray at_, 2))
    (kk : ∀ (H1 : Heap), Mm D aC b0 (newC w (100 + t) n.toNatClampNeg) H1 → va_S (Fb b0) s.heap H1 locs → W p l e R s m args below meth c H1 locs (cells + 1) (slots + bd) Q (F0 m (pc + 2) ls (va_rf (some (wn w)) :: rest))) : W p l e R s m args below meth c H locs cells slots Q (F0 m pc ls (.int n :: rest)) := by
  obtain ⟨hx, hb, -, hown, -, -, -, hts, hK⟩ := X
  have hcb : componentBytes (newarray.typeOf at_) ≤ 8 := by rcases hA with ⟨rfl, rfl⟩ | ⟨rfl, rfl⟩ | ⟨rfl, rfl⟩ <;> decide
  refine va_newaK hx hb (hts _ hG) rfl hdg rfl hn rfl (by
    have := Nat.mul_le_mul (Nat.le_trans hbd hsm) hcb
    omega) hcells (by omega) M.1 fun H1 cA e1 z1 o1 hAr hNm => ?_
  rw [← M.1] at e1 z1 o1 ⊢
  refine W.widen (Nat.le_refl _) (show slots + n.toNatClampNeg ≤ slots + bd by omega) ?_
  rw [M.1]
  refine kk H1 (M.push z1 o1 ?_) (newS hS z1 o1)
  rw [cell_arr (t := t) (by show va_up (wK w) (wn w) (100 + t) (wn w) = 100 + t; simp [va_up])]
  have hc : cA = aC t := by
    rcases hA with ⟨rfl, rfl⟩ | ⟨rfl, rfl⟩ | ⟨rfl, rfl⟩
    · exact Option.some.inj (hNm.symm.trans (hK.1.2 0 _ rfl).2)
    · exact Option.some.inj (hNm.symm.trans (hK.1.2 1 _ rfl).2)
    · exact Option.some.inj (hNm.symm.trans (hK.1.2 2 _ rfl).2)
  subst hc
  show H1[wn w]? = some (vp_cell (aC t) _)
  rw [← M.1, e1]
  have hI : wI (newC w (100 + t) n.toNatClampNeg) H.size = fun _ => 0 := by rw [M.1]; show va_up (wI w) (wn w) (fun _ => 0) (wn w) = _; simp [va_up]
  have hL : wL (newC w (100 + t) n.toNatClampNeg) H.size = fun _ => 0 := by rw [M.1]; show va_up (wL w) (wn w) (fun _ => 0) (wn w) = _; simp [va_up]
  have hN : wN (newC w (100 + t) n.toNatClampNeg) H.size = n.toNatClampNeg := by rw [M.1]; show va_up (wN w) (wn w) _ (wn w) = _; simp [va_up]
  rcases hA with ⟨rfl, rfl⟩ | ⟨rfl, rfl⟩ | ⟨rfl, rfl⟩
  · show _ = some (vp_cell (aC 0) (wN _ H.size, .inl (wI _ H.size)))
    rw [hI, hN]; rfl
  · show _ = some (vp_cell (aC 1) (wN _ H.size, .inr (.inl (wL _ H.size))))
    rw [hL, hN]; rfl
  · show _ = some (vp_cell (aC 2) (wN _ H.size, .inl (wI _ H.size)))
    rw [hI, hN]; rfl
theorem q_newq (X : Cx D aC p s m args meth c cc own nL nm ret) (M : Mm D aC b0 w H) (hS : va_S (Fb b0) s.heap H locs) {t ci ix : Nat} {C : String} (hA : AR t C ci) (hG : Cond.classLink own ix C ∈ Gw) {n : Int32} {bd : Nat} (hn : ¬ n < 0) (hbd : n.toNatClampNeg ≤ bd) (hsm : bd ≤ 65536) (hcells : cells + 1 ≤ R.cells) (hslots : slots + bd ≤ R.slots) (hdg : decode cc pc = .ok (.anewarray ix, 3))
    (kk : ∀ (H1 : Heap), Mm D aC b0 (newC w (100 + t) n.toNatClampNeg) H1 → va_S (Fb b0) s.heap H1 locs → W p l e R s m args below meth c H1 locs (cells + 1) (slots + bd) Q (F0 m (pc + 3) ls (va_rf (some (wn w)) :: rest))) : W p l e R s m args below meth c H locs cells slots Q (F0 m pc ls (.int n :: rest)) := by
  obtain ⟨hx, hb, -, hown, -, -, -, hts, hK⟩ := X
  have hAO : va_AO C s := by
    rcases hA with ⟨rfl, rfl, rfl⟩ | ⟨rfl, rfl, rfl⟩ | ⟨rfl, rfl, rfl⟩ | ⟨rfl, rfl, rfl⟩
    · exact hK.2.2.2.2.1
    · exact hK.2.2.2.2.2.1
    · exact hK.2.2.2.2.2.2.1
    · exact hK.2.2.2.2.2.2.2
  refine W.anew hx hb hown (hts _ hG) (va_AO.use hAO) rfl hdg rfl hn (by omega) hcells (by omega) fun cA kA comp f1 f2 f3 f4 => ?_
  generalize hH1 : H.push ({ cls := cA, slots := Array.replicate n.toNatClampNeg .null, vm := .none } : Cell) = H1
  have z1 : H1.size = H.size + 1 := by rw [← hH1, Array.size_push]
  have e1 : H1[H.size]? = some (arrV cA n.toNatClampNeg (fun _ => .null)) := by rw [← hH1, Array.getElem?_push_size, ← arrV_new]
  have o1 : ∀ q : Nat, q < H.size → H1[q]? = H[q]? := fun q hq => by rw [← hH1, Array.getElem?_push, if_neg (Nat.ne_of_lt hq)]
  refine W.widen (Nat.le_refl _) (show slots + n.toNatClampNeg ≤ slots + bd by omega) ?_
  rw [M.1]
  refine kk H1 (M.push z1 o1 ?_) (newS hS z1 o1)
  rw [cell_arr (t := t) (by show va_up (wK w) (wn w) (100 + t) (wn w) = 100 + t; simp [va_up]), hA.row]
  have hc : cA = aC t := by
    obtain ⟨kA', comp', -, -, -, k4⟩ := (hK.1.2 t _ hA.ty).2
    exact Option.some.inj (f1.symm.trans k4)
  subst hc
  show H1[wn w]? = some (vp_cell (aC t) _)
  rw [← M.1, e1]
  have hR : wR (newC w (100 + t) n.toNatClampNeg) H.size = fun _ => none := by rw [M.1]; show va_up (wR w) (wn w) (fun _ => none) (wn w) = _; simp [va_up]
  have hN : wN (newC w (100 + t) n.toNatClampNeg) H.size = n.toNatClampNeg := by rw [M.1]; show va_up (wN w) (wn w) _ (wn w) = _; simp [va_up]
  rw [hR, hN]; rfl
theorem q_aload_n (X : Cx D aC p s m args meth c cc own nL nm ret) {k : Fin 4} {i : Nat} {r : Option Nat} (hdg : decode cc pc = .ok (.aload_n k, 1)) (hi : (k : Nat) = i) (hl : ls[i]? = some (.val (va_rf r)))
    (kk : W p l e R s m args below meth c H locs cells slots Q (F0 m (pc + 1) ls (va_rf r :: rest))) : W p l e R s m args below meth c H locs cells slots Q (F0 m pc ls rest) := by
  cases r with
  | none => exact lv_aload_nN X.1 X.2.1 hdg hi hl kk
  | some a => exact lv_aload_n X.1 X.2.1 hdg hi hl kk
theorem q_aload (X : Cx D aC p s m args meth c cc own nL nm ret) {i : Nat} {r : Option Nat} (hdg : decode cc pc = .ok (.aload i, 2)) (hl : ls[i]? = some (.val (va_rf r)))
    (kk : W p l e R s m args below meth c H locs cells slots Q (F0 m (pc + 2) ls (va_rf r :: rest))) : W p l e R s m args below meth c H locs cells slots Q (F0 m pc ls rest) := by
  cases r with
  | none => exact lv_aloadN X.1 X.2.1 hdg hl kk
  | some a => exact lv_aload X.1 X.2.1 hdg hl kk
theorem q_astore_n (X : Cx D aC p s m args meth c cc own nL nm ret) {k : Fin 4} {i : Nat} {r : Option Nat} {lv lv' : List (Nat × Value)} (hdg : decode cc pc = .ok (.astore_n k, 1)) (hi : (k : Nat) = i) (h : lv_has ls nL lv) (hn : i < nL) (hl : (i, va_rf r) :: lv.filter (fun q => !(q.1 == i) && !(q.1 + 1 == i && q.2.category == 2)) = lv')
    (kk : ∀ ls' : Array Slot, lv_has ls' nL lv' → W p l e R s m args below meth c H locs cells slots Q (F0 m (pc + 1) ls' rest)) : W p l e R s m args below meth c H locs cells slots Q (F0 m pc ls (va_rf r :: rest)) := by
  cases r with
  | none => exact lv_astore_nN X.1 X.2.1 hdg hi h hn hl kk
  | some a => exact lv_astore_n X.1 X.2.1 hdg hi h hn hl kk
theorem q_astore (X : Cx D aC p s m args meth c cc own nL nm ret) {i : Nat} {r : Option Nat} {lv lv' : List (Nat × Value)} (hdg : decode cc pc = .ok (.astore i, 2)) (h : lv_has ls nL lv) (hn : i < nL) (hl : (i, va_rf r) :: lv.filter (fun q => !(q.1 == i) && !(q.1 + 1 == i && q.2.category == 2)) = lv')
    (kk : ∀ ls' : Array Slot, lv_has ls' nL lv' → W p l e R s m args below meth c H locs cells slots Q (F0 m (pc + 2) ls' rest)) : W p l e R s m args below meth c H locs cells slots Q (F0 m pc ls (va_rf r :: rest)) := by
  cases r with
  | none => exact lv_astoreN X.1 X.2.1 hdg h hn hl kk
  | some a => exact lv_astore X.1 X.2.1 hdg h hn hl kk
theorem q_null (X : Cx D aC p s m args meth c cc own nL nm ret) (hdg : decode cc pc = .ok (.aconst_null, 1)) (kk : W p l e R s m args below meth c H locs cells slots Q (F0 m (pc + 1) ls (va_rf none :: rest))) : W p l e R s m args below meth c H locs cells slots Q (F0 m pc ls rest) := lv_null X.1 X.2.1 hdg kk
theorem q_ifnull (X : Cx D aC p s m args meth c cc own nL nm ret) {r : Option Nat} {off : Int} {tgt : Nat} (hdg : decode cc pc = .ok (.ifnull off, 3)) (ht : (pc : Int) + off = (tgt : Int))
    (kt : r = none → W p l e R s m args below meth c H locs cells slots Q (F0 m tgt ls rest)) (kf : ¬ r = none → W p l e R s m args below meth c H locs cells slots Q (F0 m (pc + 3) ls rest)) : W p l e R s m args below meth c H locs cells slots Q (F0 m pc ls (va_rf r :: rest)) := by
  cases r with
  | none => exact lv_ifnullN X.1 X.2.1 hdg ht (kt rfl)
  | some a => exact lv_ifnull X.1 X.2.1 hdg (kf (fun h => by cases h))
theorem q_ifnonnull (X : Cx D aC p s m args meth c cc own nL nm ret) {r : Option Nat} {off : Int} {tgt : Nat} (hdg : decode cc pc = .ok (.ifnonnull off, 3)) (ht : (pc : Int) + off = (tgt : Int))
    (kt : ¬ r = none → W p l e R s m args below meth c H locs cells slots Q (F0 m tgt ls rest)) (kf : r = none → W p l e R s m args below meth c H locs cells slots Q (F0 m (pc + 3) ls rest)) : W p l e R s m args below meth c H locs cells slots Q (F0 m pc ls (va_rf r :: rest)) := by
  cases r with
  | none => exact lv_ifnonnullN X.1 X.2.1 hdg (kf rfl)
  | some a => exact lv_ifnonnull X.1 X.2.1 hdg ht (kt (fun h => by cases h))
-- ends
theorem q_iret (X : Cx D aC p s m args meth c cc own nL nm (some .int)) (M : Mm D aC b0 w H) (hS : va_S (Fb b0) s.heap H locs) {mc ms : Nat} (hc : cells ≤ mc) (hs : slots ≤ ms) {x : Int32} (hdg : decode cc pc = .ok (.ireturn, 1)) : W p l e R s m args below meth c H locs cells slots (MQ below (Qr D aC b0 (some (.int x)) w) args s mc ms (Fb b0)) (F0 m pc ls [.int x]) := by
  obtain ⟨hx, hb, -, hown, hlk, -, hr, hts, hK⟩ := X
  exact W.widen hc hs (W.iret hx hb hr (fun t ht hW => ⟨⟨rfl, by rw [ht]; exact M⟩, hS.F ht⟩) hS.2.2 hdg)
theorem q_zret (X : Cx D aC p s m args meth c cc own nL nm (some .boolean)) (M : Mm D aC b0 w H) (hS : va_S (Fb b0) s.heap H locs) {mc ms : Nat} (hc : cells ≤ mc) (hs : slots ≤ ms) {x : Int32} (hx01 : x = 0 ∨ x = 1) (hdg : decode cc pc = .ok (.ireturn, 1)) : W p l e R s m args below meth c H locs cells slots (MQ below (Qr D aC b0 (some (.int x)) w) args s mc ms (Fb b0)) (F0 m pc ls [.int x]) := by
  obtain ⟨hx, hb, -, hown, hlk, -, hr, hts, hK⟩ := X
  exact W.widen hc hs (W.zret hx hb hr (by rcases hx01 with rfl | rfl <;> decide +kernel) (fun t ht hW => ⟨⟨rfl, by rw [ht]; exact M⟩, hS.F ht⟩) hS.2.2 hdg)
theorem q_lret (X : Cx D aC p s m args meth c cc own nL nm (some .long)) (M : Mm D aC b0 w H) (hS : va_S (Fb b0) s.heap H locs) {mc ms : Nat} (hc : cells ≤ mc) (hs : slots ≤ ms) {x : Int64} (hdg : decode cc pc = .ok (.lreturn, 1)) : W p l e R s m args below meth c H locs cells slots (MQ below (Qr D aC b0 (some (.long x)) w) args s mc ms (Fb b0)) (F0 m pc ls [.long x]) := by
  obtain ⟨hx, hb, -, hown, hlk, -, hr, hts, hK⟩ := X
  exact W.widen hc hs (W.lret hx hb hr (fun t ht hW => ⟨⟨rfl, by rw [ht]; exact M⟩, hS.F ht⟩) hS.2.2 hdg)
theorem q_vret (X : Cx D aC p s m args meth c cc own nL nm none) (M : Mm D aC b0 w H) (hS : va_S (Fb b0) s.heap H locs) {mc ms : Nat} (hc : cells ≤ mc) (hs : slots ≤ ms) (hdg : decode cc pc = .ok (.return_, 1)) : W p l e R s m args below meth c H locs cells slots (MQ below (Qr D aC b0 none w) args s mc ms (Fb b0)) (F0 m pc ls []) := by
  obtain ⟨hx, hb, -, hown, hlk, -, hr, hts, hK⟩ := X
  exact W.widen hc hs (W.vret hx hb hr (fun t ht hW => ⟨⟨rfl, by rw [ht]; exact M⟩, hS.F ht⟩) hS.2.2 hdg)
theorem q_aret {C : String} (X : Cx D aC p s m args meth c cc own nL nm (some (.object C))) (M : Mm D aC b0 w H) (hS : va_S (Fb b0) s.heap H locs) {mc ms : Nat} (hc : cells ≤ mc) (hs : slots ≤ ms) {x : Option Nat} (hdg : decode cc pc = .ok (.areturn, 1)) : W p l e R s m args below meth c H locs cells slots (MQ below (Qr D aC b0 (some (va_rf x)) w) args s mc ms (Fb b0)) (F0 m pc ls [va_rf x]) := by
  obtain ⟨hx, hb, -, hown, hlk, -, hr, hts, hK⟩ := X
  exact W.widen hc hs (W.aret hx hb hr (Or.inl ⟨_, rfl⟩) (by cases x; exact Or.inl rfl; exact Or.inr ⟨_, rfl⟩) (fun t ht hW => ⟨⟨rfl, by rw [ht]; exact M⟩, hS.F ht⟩) hS.2.2 hdg)
end QC
end
section
/-! ROWS: calls, a method's entry, arraycopy, max -/
section QD
variable {l : Launch} {D : va_G} {aC : Nat → ClassId} {b0 : Nat} {p : Program} {e : Env} {R : Room} {s : State} {m : MethodId} {args : Array Value} {below : List Frame} {meth : Method} {c : Code} {cc : ByteArray} {own : String} {nL : Nat} {nm : String} {ret : Option FieldType} {w : Wd} {H : Heap} {locs : List Loc} {cells slots : Nat} {Q : State → Prop} {pc : Nat} {ls : Array Slot} {rest st0 st2 : List Value}
def ML (own : String) (ix : Nat) (y : MethodName) (bytes : ByteArray) (maxL : Nat) (ret : Option FieldType) (n : Nat) : Prop := Cond.methodLink own ix y ∈ Gw ∧ Cond.code y bytes maxL ret ∈ Gw ∧ Cond.initialized y.cls ∈ Gw ∧ (y.cls ≠ "java/lang/invoke/MethodHandle" ∧ y.cls ≠ "java/lang/invoke/VarHandle" ∧ (parseMethodDescriptor y.desc).map (fun d => d.parameters.length) = some n)
def MN (y : MethodName) (bytes : ByteArray) (maxL : Nat) (ret : Option FieldType) (n : Nat) : Prop := Cond.code y bytes maxL ret ∈ Gw ∧ Cond.initialized y.cls ∈ Gw ∧ (y.cls ≠ "java/lang/invoke/MethodHandle" ∧ y.cls ≠ "java/lang/invoke/VarHandle" ∧ (parseMethodDescriptor y.desc).map (fun d => d.parameters.length) = some n)
/-- behind a call -/
theorem q_go {w' : Wd} {ov : Option Value} {av : Array Value} {mc ms : Nat} (hr : va_Run p l e R s m args below meth c H locs cells slots mc ms (F0 m pc ls st0) rest (Qr D aC b0 ov w' av) (Fb b0)) (hS : va_S (Fb b0) s.heap H locs) (h2 : ov.toList ++ rest = st2)
    (kk : ∀ (H1 : Heap) (locs1 : List Loc), Mm D aC b0 w' H1 → va_S (Fb b0) s.heap H1 locs1 → W p l e R s m args below meth c H1 locs1 (cells + mc) (slots + ms) Q (F0 m (pc + 3) ls st2)) : W p l e R s m args below meth c H locs cells slots Q (F0 m pc ls st0) := by
  intro T hT X
  obtain ⟨v, st₀, t, T', L, h0, X', hL, e1, e2, ⟨⟨hv, hM⟩, hz, hk⟩, st⟩ := hr T hT X
  cases hv
  subst h2
  rw [h0] at hz hk
  obtain ⟨t2, a1, b1⟩ := kk T'.heap (locs ++ L) (by rw [e1]; exact hM)
    ⟨Nat.le_trans hS.1 (by rw [e1]; exact hz), fun q h1 h2 => by rw [e1, hk q (Nat.lt_of_lt_of_le h1 hS.1) h2]; exact hS.2.1 q h1 h2, fun q hq => by
      rcases List.mem_append.mp hq with h | h
      · exact hS.2.2 q h
      · exact hL q h⟩ T' rfl X'
  exact ⟨t2, st t2 a1, b1⟩
theorem blind (D : va_G) (aC : Nat → ClassId) (b0 : Nat) (av : List Value) (w : Wd) : FrameBlind (va_Pc av (fun U => Mm D aC b0 w U.heap ∧ KX D aC U)) := fun a U g mk h => ⟨h.1, h.2.1, h.2.2.calling g mk a⟩
theorem pre (X : Cx D aC p s m args meth c cc own nL nm ret) (M : Mm D aC b0 w H) (av : List Value) : ∀ U : State, U.heap = H → s.WarmedH U.vm → va_Pc av (fun U => Mm D aC b0 w U.heap ∧ KX D aC U) av.toArray U := fun U hU hW => ⟨rfl, by rw [hU]; exact M, X.2.2.2.2.2.2.2.2.warm hW⟩
theorem q_cS (X : Cx D aC p s m args meth c cc own nL nm ret) (M : Mm D aC b0 w H) (hS : va_S (Fb b0) s.heap H locs) (hl : ls.size = nL) {y : MethodName} {bytes : ByteArray} {maxL ix n : Nat} {rt : Option FieldType} {rm : Room} {As : List Value} {ov : Option Value} {w' : Wd} (hM : Ct l D aC b0 y (Cond.code y bytes maxL rt :: Gw) rm As w ov w') (hL : ML own ix y bytes maxL rt n) (hst : Cond.static y ∈ Gw) (hn : As.length = n) (hR : rm.frames + 1 ≤ R.frames ∧ 8 + (maxL + 11) + rm.locals ≤ R.locals) (hstk : st0 = As.reverse ++ rest) (h8 : (rest.map fun v => v.category).sum ≤ 8) (hc : cells + rm.cells ≤ R.cells) (hs : slots + rm.slots ≤ R.slots) (hdg : decode cc pc = .ok (.invokestatic ix, 3)) (h2 : ov.toList ++ rest = st2)
    (kk : ∀ (H1 : Heap) (locs1 : List Loc), Mm D aC b0 w' H1 → va_S (Fb b0) s.heap H1 locs1 → W p l e R s m args below meth c H1 locs1 (cells + rm.cells) (slots + rm.slots) Q (F0 m (pc + 3) ls st2)) : W p l e R s m args below meth c H locs cells slots Q (F0 m pc ls st0) :=
  q_go (va_runS ⟨X.1, X.2.1, X.2.2.1, X.2.2.2.1, X.2.2.2.2.2.2.2.1⟩ hM ⟨callB_of n X.2.2.2.2.2.2.2.1 (gInL hL.2.1) rfl rfl rfl (X.2.2.2.2.2.2.2.1 _ hL.2.2.1) (X.2.2.2.2.2.2.2.1 _ hL.1) hL.2.2.2 hR, X.2.2.2.2.2.2.2.1 _ hst⟩ ⟨blind D aC b0 As w, pre X M As⟩ rfl hn hl hstk (lv_room h8) hdg ⟨hc, hs⟩) hS h2 kk
theorem q_cI (X : Cx D aC p s m args meth c cc own nL nm ret) (M : Mm D aC b0 w H) (hS : va_S (Fb b0) s.heap H locs) (hl : ls.size = nL) {y : MethodName} {bytes : ByteArray} {maxL ix n a : Nat} {rm : Room} {As : List Value} {w' : Wd} (hM : Ct l D aC b0 y (Cond.code y bytes maxL none :: Gw) rm (va_rf (some a) :: As) w none w') (hL : ML own ix y bytes maxL none n) (hst : Cond.instanceMethod y ∈ Gw) (hy : y.name = "<init>") (hn : As.length = n) (hR : rm.frames + 1 ≤ R.frames ∧ 8 + (maxL + 11) + rm.locals ≤ R.locals) (hstk : st0 = As.reverse ++ va_rf (some a) :: rest) (h8 : (rest.map fun v => v.category).sum ≤ 8) (hc : cells + rm.cells ≤ R.cells) (hs : slots + rm.slots ≤ R.slots) (hdg : decode cc pc = .ok (.invokespecial ix, 3))
    (kk : ∀ (H1 : Heap) (locs1 : List Loc), Mm D aC b0 w' H1 → va_S (Fb b0) s.heap H1 locs1 → W p l e R s m args below meth c H1 locs1 (cells + rm.cells) (slots + rm.slots) Q (F0 m (pc + 3) ls rest)) : W p l e R s m args below meth c H locs cells slots Q (F0 m pc ls st0) :=
  q_go (va_runI ⟨X.1, X.2.1, X.2.2.1, X.2.2.2.1, X.2.2.2.2.2.2.2.1⟩ hM ⟨callB_of n X.2.2.2.2.2.2.2.1 (gInL hL.2.1) rfl rfl rfl (X.2.2.2.2.2.2.2.1 _ hL.2.2.1) (X.2.2.2.2.2.2.2.1 _ hL.1) hL.2.2.2 hR, hy, X.2.2.2.2.2.2.2.1 _ hst⟩ ⟨blind D aC b0 _ w, pre X M _⟩ rfl hn hl hstk (lv_room h8) hdg ⟨hc, hs⟩) hS rfl kk
theorem q_cV (X : Cx D aC p s m args meth c cc own nL nm ret) (M : Mm D aC b0 w H) (hS : va_S (Fb b0) s.heap H locs) (hl : ls.size = nL) {y : MethodName} {bytes : ByteArray} {maxL ix n a ci : Nat} {rt : Option FieldType} {rm : Room} {As : List Value} {ov : Option Value} {w' : Wd} {r : vw_C} (hM : Ct l D aC b0 y (Cond.code y bytes maxL rt :: Gw) rm (va_rf (some a) :: As) w ov w') (hL : ML own ix y bytes maxL rt n) (hst : Cond.instanceMethod y ∈ Gw) (hsel : Cond.selects r.1 y y ∈ Gw) (hci : vwCl[ci]? = some r) (h99 : ci < 99) (ha : wK w a = ci + 1) (hn : As.length = n) (hR : rm.frames + 1 ≤ R.frames ∧ 8 + (maxL + 11) + rm.locals ≤ R.locals) (hstk : st0 = As.reverse ++ va_rf (some a) :: rest) (h8 : (rest.map fun v => v.category).sum ≤ 8) (hc : cells + rm.cells ≤ R.cells) (hs : slots + rm.slots ≤ R.slots) (hdg : decode cc pc = .ok (.invokevirtual ix, 3)) (h2 : ov.toList ++ rest = st2)
    (kk : ∀ (H1 : Heap) (locs1 : List Loc), Mm D aC b0 w' H1 → va_S (Fb b0) s.heap H1 locs1 → W p l e R s m args below meth c H1 locs1 (cells + rm.cells) (slots + rm.slots) Q (F0 m (pc + 3) ls st2)) : W p l e R s m args below meth c H locs cells slots Q (F0 m pc ls st0) :=
  q_go (va_runV ⟨X.1, X.2.1, X.2.2.1, X.2.2.2.1, X.2.2.2.2.2.2.2.1⟩ hM ⟨callB_of n X.2.2.2.2.2.2.2.1 (gInL hL.2.1) rfl rfl rfl (X.2.2.2.2.2.2.2.1 _ hL.2.2.1) (X.2.2.2.2.2.2.2.1 _ hL.1) hL.2.2.2 hR, X.2.2.2.2.2.2.2.1 _ hst, X.2.2.2.2.2.2.2.1 _ hsel⟩ ⟨blind D aC b0 _ w, va_recv X.2.2.2.2.2.2.2.2.1 M.2.2.2 hci (M.obj ha h99), pre X M _⟩ rfl hn hl hstk (lv_room h8) hdg ⟨hc, hs⟩) hS h2 kk
/-- calls of a nest mate's private members -/
theorem cnB {y : MethodName} {bytes : ByteArray} {maxL ix n : Nat} {rt : Option FieldType} {rm : Room} (X : Cx D aC p s m args meth c cc own nL nm ret) (hL : MN y bytes maxL rt n) (hN : va_Nw (.methodLinkNest own ix y RX5) s) (hR : rm.frames + 1 ≤ R.frames ∧ 8 + (maxL + 11) + rm.locals ≤ R.locals) : va_CN R s args own ix y RX5 bytes maxL rt (Cond.code y bytes maxL rt :: Gw) rm rm.cells rm.slots n :=
  va_cnB n X.2.2.2.2.2.2.2.1 (gInL hL.1) rfl rfl rfl hN (X.2.2.2.2.2.2.2.1 _ hL.2.1) hL.2.2 hR
theorem q_cSN (X : Cx D aC p s m args meth c cc own nL nm ret) (M : Mm D aC b0 w H) (hS : va_S (Fb b0) s.heap H locs) (hl : ls.size = nL) {y : MethodName} {bytes : ByteArray} {maxL ix n : Nat} {rt : Option FieldType} {rm : Room} {As : List Value} {ov : Option Value} {w' : Wd} (hM : Ct l D aC b0 y (Cond.code y bytes maxL rt :: Gw) rm As w ov w') (hL : MN y bytes maxL rt n) (hN : va_Nw (.methodLinkNest own ix y RX5) s) (hst : Cond.static y ∈ Gw) (hn : As.length = n) (hR : rm.frames + 1 ≤ R.frames ∧ 8 + (maxL + 11) + rm.locals ≤ R.locals) (hstk : st0 = As.reverse ++ rest) (h8 : (rest.map fun v => v.category).sum ≤ 8) (hc : cells + rm.cells ≤ R.cells) (hs : slots + rm.slots ≤ R.slots) (hdg : decode cc pc = .ok (.invokestatic ix, 3)) (h2 : ov.toList ++ rest = st2)
    (kk : ∀ (H1 : Heap) (locs1 : List Loc), Mm D aC b0 w' H1 → va_S (Fb b0) s.heap H1 locs1 → W p l e R s m args below meth c H1 locs1 (cells + rm.cells) (slots + rm.slots) Q (F0 m (pc + 3) ls st2)) : W p l e R s m args below meth c H locs cells slots Q (F0 m pc ls st0) :=
  q_go (va_runSN ⟨X.1, X.2.1, X.2.2.1, X.2.2.2.1, X.2.2.2.2.2.2.2.1⟩ hM ⟨cnB X hL hN hR, X.2.2.2.2.2.2.2.1 _ hst, trivial⟩ ⟨blind D aC b0 As w, pre X M As⟩ rfl hn hl hstk (lv_room h8) hdg ⟨hc, hs⟩) hS h2 kk
theorem q_cIN (X : Cx D aC p s m args meth c cc own nL nm ret) (M : Mm D aC b0 w H) (hS : va_S (Fb b0) s.heap H locs) (hl : ls.size = nL) {y : MethodName} {bytes : ByteArray} {maxL ix n a : Nat} {rm : Room} {As : List Value} {w' : Wd} (hM : Ct l D aC b0 y (Cond.code y bytes maxL none :: Gw) rm (va_rf (some a) :: As) w none w') (hL : MN y bytes maxL none n) (hN : va_Nw (.methodLinkNest own ix y RX5) s) (hst : Cond.instanceMethod y ∈ Gw) (hy : y.name = "<init>") (hn : As.length = n) (hR : rm.frames + 1 ≤ R.frames ∧ 8 + (maxL + 11) + rm.locals ≤ R.locals) (hstk : st0 = As.reverse ++ va_rf (some a) :: rest) (h8 : (rest.map fun v => v.category).sum ≤ 8) (hc : cells + rm.cells ≤ R.cells) (hs : slots + rm.slots ≤ R.slots) (hdg : decode cc pc = .ok (.invokespecial ix, 3))
    (kk : ∀ (H1 : Heap) (locs1 : List Loc), Mm D aC b0 w' H1 → va_S (Fb b0) s.heap H1 locs1 → W p l e R s m args below meth c H1 locs1 (cells + rm.cells) (slots + rm.slots) Q (F0 m (pc + 3) ls rest)) : W p l e R s m args below meth c H locs cells slots Q (F0 m pc ls st0) :=
  q_go (va_runIN ⟨X.1, X.2.1, X.2.2.1, X.2.2.2.1, X.2.2.2.2.2.2.2.1⟩ hM ⟨cnB X hL hN hR, hy, X.2.2.2.2.2.2.2.1 _ hst⟩ ⟨blind D aC b0 _ w, pre X M _⟩ rfl hn hl hstk (lv_room h8) hdg ⟨hc, hs⟩) hS rfl kk
theorem g_oi : Cond.instanceMethod objectInit ∈ Gw := List.mem_of_getElem? (i := 15) (by decide +kernel)
theorem g_oc : Cond.code objectInit ⟨#[0xb1]⟩ 1 none ∈ Gw := List.mem_of_getElem? (i := 16) (by decide +kernel)
/-- Object() -/
theorem q_obj (X : Cx D aC p s m args meth c cc own nL nm ret) (hl : ls.size = nL) {ix a : Nat} (h1 : Cond.methodLink own ix objectInit ∈ Gw) (hfr : 1 ≤ R.frames) (hlo : 12 + (rest.map fun v => v.category).sum ≤ R.locals) (hdg : decode cc pc = .ok (.invokespecial ix, 3))
    (kk : W p l e R s m args below meth c H locs cells slots Q (F0 m (pc + 3) ls rest)) : W p l e R s m args below meth c H locs cells slots Q (F0 m pc ls (va_rf (some a) :: rest)) :=
  W.objInit X.1 X.2.1 X.2.2.2.1 (X.2.2.2.2.2.2.2.1 _ h1) (X.2.2.2.2.2.2.2.1 _ g_oi) (X.2.2.2.2.2.2.2.1 _ g_oc) rfl (hl.trans X.2.2.1.symm) rfl hdg hfr (by show 2 * 0 + _ + 12 ≤ _; omega) kk
/-- a method's entry -/
theorem q_met {y : MethodName} {bytes : ByteArray} {maxL : Nat} {rt : Option FieldType} {rm : Room} {av : List Value} {ov : Option Value} {w' : Wd} (hp : plainName y.cls = true) (hlen : (lg_sl av).length ≤ maxL)
    (h : ∀ (p : Program) (e : Env) (s : State) (m : MethodId) (below : List Frame) (meth : Method) (c : Code), Cx D aC p s m av.toArray meth c bytes y.cls maxL y.name rt → Mm D aC b0 w s.heap → ∀ ls : Array Slot, lv_has ls maxL (lv_args 0 av) → W p l e rm s m av.toArray below meth c s.heap [] 0 0 (MQ below (Qr D aC b0 ov w') av.toArray s rm.cells rm.slots (Fb b0)) (F0 m 0 ls [])) : Ct l D aC b0 y (Cond.code y bytes maxL rt :: Gw) rm av w ov w' := by
  refine Met.ofW (cc := bytes) (maxL := maxL) (ret := rt) hp rfl ?_
  intro p e s m args below meth c s₁ B hml hv
  obtain ⟨rfl, M, hK⟩ := hv
  have hts := atoms_spec (ws := Cond.code y bytes maxL rt :: Gw) B.pre
  have hown : s.vm.findClass y.cls = some m.cls := findClass_of_methodNamed B.named
  have hnm : meth.name = y.name := (name_of_methodNamed B.named B.method).1
  have hl := lv_entry av (n := maxL) hlen
  rw [lg_entry_eq]
  exact h p e s m below meth c ⟨B.exec, B.bytes, hml, hown, B.notSynchronized, hnm, B.returns, fun w hw => hts w (List.mem_cons_of_mem _ hw), hK⟩ M _ hl
theorem q_max (X : Cx D aC p s m args meth c cc own nL nm ret) (hl : ls.size = nL) {ix : Nat} (h1 : Cond.methodLink own ix Lib.Math.max.name ∈ Gw) (h2 : Cond.static Lib.Math.max.name ∈ Gw) (h3 : Cond.initialized "java/lang/Math" ∈ Gw) (h4 : Cond.code Lib.Math.max.name Lib.Math.max.code 2 (some .int) ∈ Gw) (hfr : 1 ≤ R.frames) (hlo : (rest.map fun v => v.category).sum + 13 ≤ R.locals) (hc : cells ≤ R.cells) (hs : slots ≤ R.slots) {x y : Int32} (hdg : decode cc pc = .ok (.invokestatic ix, 3))
    (kk : W p l e R s m args below meth c H locs cells slots Q (F0 m (pc + 3) ls (.int (if x < y then y else x) :: rest))) : W p l e R s m args below meth c H locs cells slots Q (F0 m pc ls (.int y :: .int x :: rest)) :=
  va_mmax X.1 X.2.1 (X.2.2.1.trans hl.symm) X.2.2.2.1 (X.2.2.2.2.2.2.2.1 _ h1) (X.2.2.2.2.2.2.2.1 _ h2) (X.2.2.2.2.2.2.2.1 _ h3) (X.2.2.2.2.2.2.2.1 _ h4) hfr hlo hc hs hdg kk
theorem cl_nn {z : Int32} (hz : ¬ z < 0) : z.toInt = (z.toNatClampNeg : Int) := by
  have hz0 : (0 : Int) ≤ z.toInt := by
    have := Int32.not_lt.mp hz
    simpa using Int32.le_iff_toInt_le.mp this
  show z.toInt = ((z.toInt.toNat : Nat) : Int)
  omega
/-- System.arraycopy over ints, over longs: which words it needs -/
def SA (own : String) (ix : Nat) : Prop := Cond.methodLink own ix arraycopyName ∈ Gw ∧ Cond.native arraycopyName ∈ Gw ∧ Cond.static arraycopyName ∈ Gw ∧ Cond.initialized "java/lang/System" ∈ Gw
theorem nfw18 : nativeFrameWords "java/lang/System" "arraycopy" 5 + 11 = 18 := by decide +kernel
theorem q_cpy (X : Cx D aC p s m args meth c cc own nL nm ret) (M : Mm D aC b0 w H) (hS : va_S (Fb b0) s.heap H locs) (hl : ls.size = nL) {ix t a0 a1 : Nat} {ty : FieldType} (hA : SA own ix) (ht : (tyL aC)[t]? = some (aC t, ty)) (hprim : refKind ty = false) (f0 f1 : Nat → Value) (k0 : wK w a0 = 100 + t) (k1 : wK w a1 = 100 + t) (hc0 : H[a0]? = some (arrV (aC t) (wN w a0) f0)) (hc1 : H[a1]? = some (arrV (aC t) (wN w a1) f1)) {sp dp n : Int32} (h1 : ¬ sp < 0) (h2 : ¬ dp < 0) (h3 : ¬ n < 0) (h4 : sp.toNatClampNeg + n.toNatClampNeg ≤ wN w a0) (h5 : dp.toNatClampNeg + n.toNatClampNeg ≤ wN w a1) (hfit : ∀ i, i < n.toNatClampNeg → fits ty (f0 (sp.toNatClampNeg + i)) = true) (href : ∀ j, f0 j ≠ .null ∧ ∀ q, f0 j ≠ .ref q)
    {w' : Wd} (hn : wn w' = wn w) (hk : wK w' = wK w) (ho : ∀ b, b ≠ a1 → cellOf aC w' b = cellOf aC w b) (he : copied (arrV (aC t) (wN w a0) f0) (arrV (aC t) (wN w a1) f1) sp dp n = vp_cell (aC t) (aRow w' a1 t))
    (hfr : 1 ≤ R.frames) (hlo : (rest.map fun v => v.category).sum + 18 ≤ R.locals) (hdg : decode cc pc = .ok (.invokestatic ix, 3))
    (kk : ∀ (H1 : Heap) (locs1 : List Loc), Mm D aC b0 w' H1 → va_S (Fb b0) s.heap H1 locs1 → W p l e R s m args below meth c H1 locs1 cells slots Q (F0 m (pc + 3) ls rest)) : W p l e R s m args below meth c H locs cells slots Q (F0 m pc ls (.int n :: .int dp :: va_rf (some a1) :: .int sp :: va_rf (some a0) :: rest)) := by
  obtain ⟨hx, hb, hml, hown, -, -, -, hts, hK⟩ := X
  intro T hT X
  obtain ⟨-, q0, hq0, cm0, hkk0⟩ := (hK.1.2 t _ ht).1 (wN w a0) f0
  obtain ⟨-, q1, hq1, cm1, hkk1⟩ := (hK.1.2 t _ ht).1 (wN w a1) f1
  obtain ⟨vm', X', step⟩ := X.arraycopy hx hown (hts _ hA.1) (hts _ hA.2.1) (hts _ hA.2.2.1) (hts _ hA.2.2.2) (src := a0) (dst := a1) (cs := arrV (aC t) (wN w a0) f0) (cd := arrV (aC t) (wN w a1) f1) (srcPos := sp) (destPos := dp) (n := n) (by rw [hT]; exact hc0) (by rw [hT]; exact hc1)
    (fun _ h => by cases h) (fun _ h => by cases h) (fun h => by cases h) (fun h => by cases h) hq0 hq1 hkk0 hkk1 (by simp [hprim]) h1 h2 h3
    (by rw [cl_nn h1, cl_nn h3, arrV_size]; omega)
    (by rw [cl_nn h2, cl_nn h3, arrV_size]; omega)
    (fun vm₁ _ i hi => by
      have e : (arrV (aC t) (wN w a0) f0).slots.getD (sp.toNatClampNeg + i) .null = f0 (sp.toNatClampNeg + i) := by
        rw [Array.getD_eq_getD_getElem?, arrV_read _ _ (by omega)]
        rfl
      refine ⟨?_, ?_⟩
      · rw [e]
        exact hfit i hi
      · rw [e]
        have hh := href (sp.toNatClampNeg + i)
        cases hv : f0 (sp.toNatClampNeg + i) with
        | null => exact absurd hv hh.1
        | ref q => exact absurd hv (hh.2 q)
        | _ => trivial)
    (g := F0 m pc ls (.int n :: .int dp :: .ref a1 :: .int sp :: .ref a0 :: rest)) rfl (by rw [hml]; exact hl) (rest := rest) rfl (by rw [hb]; exact hdg) hfr (by show 2 * 0 + _ + _ ≤ _; rw [nfw18]; omega)
  rw [he] at X' step
  have hlt : a1 < H.size := (Array.getElem?_eq_some_iff.mp hc1).1
  have hheap : ((T.setVm vm').setCell a1 (vp_cell (aC t) (aRow w' a1 t))).heap = H.setIfInBounds a1 (vp_cell (aC t) (aRow w' a1 t)) := by rw [← hT]; rfl
  have oq : ∀ q : Nat, q ≠ a1 → (H.setIfInBounds a1 (vp_cell (aC t) (aRow w' a1 t)))[q]? = H[q]? := fun q hq => by simp [Array.getElem?_setIfInBounds, Ne.symm hq]
  have hA1 : b0 ≤ a1 := (M.2.2.1 a1 (by omega)).1
  obtain ⟨t2, g1, g2⟩ := kk _ _ (M.ast k1 (by simp) oq hn hk ho (by simp [Array.getElem?_setIfInBounds, hlt])) ⟨by simp; exact hS.1, fun q g1 g2 => by
      rw [oq q (fun e => g2 (by rw [e]; exact hA1))]
      exact hS.2.1 q g1 g2, fun q hq => by
      rcases List.mem_append.mp hq with h | h
      · exact hS.2.2 q h
      · obtain ⟨z, -, hz⟩ := List.mem_map.mp h
        rw [← hz]
        exact hA1⟩ _ hheap X'
  exact ⟨t2, step t2 g1, g2⟩
theorem q_cpyI (X : Cx D aC p s m args meth c cc own nL nm ret) (M : Mm D aC b0 w H) (hS : va_S (Fb b0) s.heap H locs) (hl : ls.size = nL) {ix a0 a1 : Nat} (hA : SA own ix) (k0 : wK w a0 = 100) (k1 : wK w a1 = 100) {sp dp n : Int32} (h1 : ¬ sp < 0) (h2 : ¬ dp < 0) (h3 : ¬ n < 0) (h4 : sp.toNatClampNeg + n.toNatClampNeg ≤ wN w a0) (h5 : dp.toNatClampNeg + n.toNatClampNeg ≤ wN w a1)
    (hfr : 1 ≤ R.frames) (hlo : (rest.map fun v => v.category).sum + 18 ≤ R.locals) (hdg : decode cc pc = .ok (.invokestatic ix, 3))
    (kk : ∀ (H1 : Heap) (locs1 : List Loc), Mm D aC b0 (rI w a1 (va_cpy (wI w a0) (wI w a1) sp.toNatClampNeg dp.toNatClampNeg n.toNatClampNeg)) H1 → va_S (Fb b0) s.heap H1 locs1 → W p l e R s m args below meth c H1 locs1 cells slots Q (F0 m (pc + 3) ls rest)) : W p l e R s m args below meth c H locs cells slots Q (F0 m pc ls (.int n :: .int dp :: va_rf (some a1) :: .int sp :: va_rf (some a0) :: rest)) :=
  q_cpy (t := 0) (ty := .int) (w' := rI w a1 (va_cpy (wI w a0) (wI w a1) sp.toNatClampNeg dp.toNatClampNeg n.toNatClampNeg)) X M hS hl hA rfl rfl (fun j => .int (wI w a0 j)) (fun j => .int (wI w a1 j)) k0 k1 (M.2.2.2 _ _ (M.arr (t := 0) k0)) (M.2.2.2 _ _ (M.arr (t := 0) k1)) h1 h2 h3 h4 h5 (fun _ _ => rfl) (fun j => ⟨(fun h => by cases h), (fun q h => by cases h)⟩) rfl rfl rI_oth
    ((va_copied (fun z => Value.int z) (aC 0) (aC 0) (wI w a0) (wI w a1) h4).trans (by
      show _ = arrV (aC 0) (wN w a1) (fun j => .int (va_up (wI w) a1 (va_cpy (wI w a0) (wI w a1) sp.toNatClampNeg dp.toNatClampNeg n.toNatClampNeg) a1 j))
      rw [va_up_self])) hfr hlo hdg kk
theorem q_cpyL (X : Cx D aC p s m args meth c cc own nL nm ret) (M : Mm D aC b0 w H) (hS : va_S (Fb b0) s.heap H locs) (hl : ls.size = nL) {ix a0 a1 : Nat} (hA : SA own ix) (k0 : wK w a0 = 101) (k1 : wK w a1 = 101) {sp dp n : Int32} (h1 : ¬ sp < 0) (h2 : ¬ dp < 0) (h3 : ¬ n < 0) (h4 : sp.toNatClampNeg + n.toNatClampNeg ≤ wN w a0) (h5 : dp.toNatClampNeg + n.toNatClampNeg ≤ wN w a1)
    (hfr : 1 ≤ R.frames) (hlo : (rest.map fun v => v.category).sum + 18 ≤ R.locals) (hdg : decode cc pc = .ok (.invokestatic ix, 3))
    (kk : ∀ (H1 : Heap) (locs1 : List Loc), Mm D aC b0 (rL w a1 (va_cpy (wL w a0) (wL w a1) sp.toNatClampNeg dp.toNatClampNeg n.toNatClampNeg)) H1 → va_S (Fb b0) s.heap H1 locs1 → W p l e R s m args below meth c H1 locs1 cells slots Q (F0 m (pc + 3) ls rest)) : W p l e R s m args below meth c H locs cells slots Q (F0 m pc ls (.int n :: .int dp :: va_rf (some a1) :: .int sp :: va_rf (some a0) :: rest)) :=
  q_cpy (t := 1) (ty := .long) (w' := rL w a1 (va_cpy (wL w a0) (wL w a1) sp.toNatClampNeg dp.toNatClampNeg n.toNatClampNeg)) X M hS hl hA rfl rfl (fun j => .long (wL w a0 j)) (fun j => .long (wL w a1 j)) k0 k1 (M.2.2.2 _ _ (M.arr (t := 1) k0)) (M.2.2.2 _ _ (M.arr (t := 1) k1)) h1 h2 h3 h4 h5 (fun _ _ => rfl) (fun j => ⟨(fun h => by cases h), (fun q h => by cases h)⟩) rfl rfl rL_oth
    ((va_copied (fun z => Value.long z) (aC 1) (aC 1) (wL w a0) (wL w a1) h4).trans (by
      show _ = arrV (aC 1) (wN w a1) (fun j => .long (va_up (wL w) a1 (va_cpy (wL w a0) (wL w a1) sp.toNatClampNeg dp.toNatClampNeg n.toNatClampNeg) a1 j))
      rw [va_up_self])) hfr hlo hdg kk
end QD
end
