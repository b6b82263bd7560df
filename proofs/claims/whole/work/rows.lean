section
-- ===== PART A: goes FIRST, ahead of the names: the tables' words, and 'selects' of the private methods out of them =====
/-- a private method of a class that the tables say can be made, by its rows of tables_1 -/
def lw_okq (q : MethodName × Nat) : Prop := (q.1.cls ≠ "java/lang/invoke/MethodHandle" ∧ q.1.cls ≠ "java/lang/invoke/VarHandle") ∧ Cond.instantiable q.1.cls q.2 ∈ tables_1 ∧ Cond.privateMethod q.1 ∈ tables_1 ∧ Cond.instanceMethod q.1 ∈ tables_1
theorem lw_p0 : lw_okq (⟨"OnceCalls", "clientAt", "(I)LOnceCalls$Client;"⟩, 9) := ⟨⟨by decide +kernel, by decide +kernel⟩, List.mem_of_getElem? (i := 12) (by decide +kernel), List.mem_of_getElem? (i := 221) (by decide +kernel), List.mem_of_getElem? (i := 222) (by decide +kernel)⟩
theorem lw_p1 : lw_okq (⟨"OnceCalls", "isLive", "(II)Z"⟩, 9) := ⟨⟨by decide +kernel, by decide +kernel⟩, List.mem_of_getElem? (i := 12) (by decide +kernel), List.mem_of_getElem? (i := 229) (by decide +kernel), List.mem_of_getElem? (i := 230) (by decide +kernel)⟩
theorem lw_p2 : lw_okq (⟨"OnceCalls", "send", "(LOnceCalls$Letter;)V"⟩, 9) := ⟨⟨by decide +kernel, by decide +kernel⟩, List.mem_of_getElem? (i := 12) (by decide +kernel), List.mem_of_getElem? (i := 325) (by decide +kernel), List.mem_of_getElem? (i := 326) (by decide +kernel)⟩
theorem lw_p3 : lw_okq (⟨"OnceCalls", "serverAt", "(I)LOnceCalls$Server;"⟩, 9) := ⟨⟨by decide +kernel, by decide +kernel⟩, List.mem_of_getElem? (i := 12) (by decide +kernel), List.mem_of_getElem? (i := 345) (by decide +kernel), List.mem_of_getElem? (i := 346) (by decide +kernel)⟩
theorem lw_p4 : lw_okq (⟨"OnceCalls", "takeAnswer", "(LOnceCalls$Letter;)V"⟩, 9) := ⟨⟨by decide +kernel, by decide +kernel⟩, List.mem_of_getElem? (i := 12) (by decide +kernel), List.mem_of_getElem? (i := 361) (by decide +kernel), List.mem_of_getElem? (i := 362) (by decide +kernel)⟩
theorem lw_p5 : lw_okq (⟨"OnceCalls", "takeAtServer", "(LOnceCalls$Server;LOnceCalls$Letter;)V"⟩, 9) := ⟨⟨by decide +kernel, by decide +kernel⟩, List.mem_of_getElem? (i := 12) (by decide +kernel), List.mem_of_getElem? (i := 369) (by decide +kernel), List.mem_of_getElem? (i := 370) (by decide +kernel)⟩
theorem lw_p6 : lw_okq (⟨"OnceCalls", "takeRequest", "(LOnceCalls$Server;LOnceCalls$Letter;)V"⟩, 9) := ⟨⟨by decide +kernel, by decide +kernel⟩, List.mem_of_getElem? (i := 12) (by decide +kernel), List.mem_of_getElem? (i := 373) (by decide +kernel), List.mem_of_getElem? (i := 374) (by decide +kernel)⟩
theorem lw_p7 : lw_okq (⟨"OnceCalls", "answer", "(LOnceCalls$Server;LOnceCalls$Letter;IJ)V"⟩, 9) := ⟨⟨by decide +kernel, by decide +kernel⟩, List.mem_of_getElem? (i := 12) (by decide +kernel), List.mem_of_getElem? (i := 381) (by decide +kernel), List.mem_of_getElem? (i := 382) (by decide +kernel)⟩
theorem lw_p8 : lw_okq (⟨"OnceCalls", "sendFrom", "(LOnceCalls$Server;LOnceCalls$Letter;)V"⟩, 9) := ⟨⟨by decide +kernel, by decide +kernel⟩, List.mem_of_getElem? (i := 12) (by decide +kernel), List.mem_of_getElem? (i := 385) (by decide +kernel), List.mem_of_getElem? (i := 386) (by decide +kernel)⟩
theorem lw_p9 : lw_okq (⟨"OnceCalls", "takeOwnRequest", "(LOnceCalls$Server;LOnceCalls$Bucket;LOnceCalls$Letter;)V"⟩, 9) := ⟨⟨by decide +kernel, by decide +kernel⟩, List.mem_of_getElem? (i := 12) (by decide +kernel), List.mem_of_getElem? (i := 389) (by decide +kernel), List.mem_of_getElem? (i := 390) (by decide +kernel)⟩
theorem lw_p10 : lw_okq (⟨"OnceCalls$Bucket", "removeRecordsBelow", "(II)V"⟩, 11) := ⟨⟨by decide +kernel, by decide +kernel⟩, List.mem_of_getElem? (i := 48) (by decide +kernel), List.mem_of_getElem? (i := 398) (by decide +kernel), List.mem_of_getElem? (i := 399) (by decide +kernel)⟩
theorem lw_p11 : lw_okq (⟨"OnceCalls", "takeMove", "(LOnceCalls$Server;LOnceCalls$Letter;)V"⟩, 9) := ⟨⟨by decide +kernel, by decide +kernel⟩, List.mem_of_getElem? (i := 12) (by decide +kernel), List.mem_of_getElem? (i := 425) (by decide +kernel), List.mem_of_getElem? (i := 426) (by decide +kernel)⟩
theorem lw_p12 : lw_okq (⟨"OnceCalls", "takeTaken", "(LOnceCalls$Server;LOnceCalls$Letter;)V"⟩, 9) := ⟨⟨by decide +kernel, by decide +kernel⟩, List.mem_of_getElem? (i := 12) (by decide +kernel), List.mem_of_getElem? (i := 430) (by decide +kernel), List.mem_of_getElem? (i := 431) (by decide +kernel)⟩
theorem lw_p13 : lw_okq (⟨"OnceCalls", "takeAck", "(LOnceCalls$Server;LOnceCalls$Letter;)V"⟩, 9) := ⟨⟨by decide +kernel, by decide +kernel⟩, List.mem_of_getElem? (i := 12) (by decide +kernel), List.mem_of_getElem? (i := 444) (by decide +kernel), List.mem_of_getElem? (i := 445) (by decide +kernel)⟩
theorem lw_p14 : lw_okq (⟨"OnceCalls", "removeDeadRecords", "(LOnceCalls$Bucket;)I"⟩, 9) := ⟨⟨by decide +kernel, by decide +kernel⟩, List.mem_of_getElem? (i := 12) (by decide +kernel), List.mem_of_getElem? (i := 494) (by decide +kernel), List.mem_of_getElem? (i := 495) (by decide +kernel)⟩
theorem lw_p15 : lw_okq (⟨"OnceCalls", "bucketAt", "(II)LOnceCalls$Bucket;"⟩, 9) := ⟨⟨by decide +kernel, by decide +kernel⟩, List.mem_of_getElem? (i := 12) (by decide +kernel), List.mem_of_getElem? (i := 518) (by decide +kernel), List.mem_of_getElem? (i := 519) (by decide +kernel)⟩
def lw_privs_1 : List (MethodName × Nat) := [(⟨"OnceCalls", "clientAt", "(I)LOnceCalls$Client;"⟩, 9), (⟨"OnceCalls", "isLive", "(II)Z"⟩, 9), (⟨"OnceCalls", "send", "(LOnceCalls$Letter;)V"⟩, 9), (⟨"OnceCalls", "serverAt", "(I)LOnceCalls$Server;"⟩, 9), (⟨"OnceCalls", "takeAnswer", "(LOnceCalls$Letter;)V"⟩, 9), (⟨"OnceCalls", "takeAtServer", "(LOnceCalls$Server;LOnceCalls$Letter;)V"⟩, 9), (⟨"OnceCalls", "takeRequest", "(LOnceCalls$Server;LOnceCalls$Letter;)V"⟩, 9), (⟨"OnceCalls", "answer", "(LOnceCalls$Server;LOnceCalls$Letter;IJ)V"⟩, 9), (⟨"OnceCalls", "sendFrom", "(LOnceCalls$Server;LOnceCalls$Letter;)V"⟩, 9), (⟨"OnceCalls", "takeOwnRequest", "(LOnceCalls$Server;LOnceCalls$Bucket;LOnceCalls$Letter;)V"⟩, 9), (⟨"OnceCalls$Bucket", "removeRecordsBelow", "(II)V"⟩, 11), (⟨"OnceCalls", "takeMove", "(LOnceCalls$Server;LOnceCalls$Letter;)V"⟩, 9), (⟨"OnceCalls", "takeTaken", "(LOnceCalls$Server;LOnceCalls$Letter;)V"⟩, 9), (⟨"OnceCalls", "takeAck", "(LOnceCalls$Server;LOnceCalls$Letter;)V"⟩, 9), (⟨"OnceCalls", "removeDeadRecords", "(LOnceCalls$Bucket;)I"⟩, 9), (⟨"OnceCalls", "bucketAt", "(II)LOnceCalls$Bucket;"⟩, 9)]
theorem lw_r1 : ∀ q ∈ lw_privs_1, lw_okq q := List.forall_mem_cons.mpr ⟨lw_p0, List.forall_mem_cons.mpr ⟨lw_p1, List.forall_mem_cons.mpr ⟨lw_p2, List.forall_mem_cons.mpr ⟨lw_p3, List.forall_mem_cons.mpr ⟨lw_p4, List.forall_mem_cons.mpr ⟨lw_p5, List.forall_mem_cons.mpr ⟨lw_p6, List.forall_mem_cons.mpr ⟨lw_p7, List.forall_mem_cons.mpr ⟨lw_p8, List.forall_mem_cons.mpr ⟨lw_p9, List.forall_mem_cons.mpr ⟨lw_p10, List.forall_mem_cons.mpr ⟨lw_p11, List.forall_mem_cons.mpr ⟨lw_p12, List.forall_mem_cons.mpr ⟨lw_p13, List.forall_mem_cons.mpr ⟨lw_p14, List.forall_mem_cons.mpr ⟨lw_p15, fun _ h => absurd h List.not_mem_nil⟩⟩⟩⟩⟩⟩⟩⟩⟩⟩⟩⟩⟩⟩⟩⟩
theorem lw_p16 : lw_okq (⟨"OnceCalls$Letter", "fourthPart", "()I"⟩, 15) := ⟨⟨by decide +kernel, by decide +kernel⟩, List.mem_of_getElem? (i := 248) (by decide +kernel), List.mem_of_getElem? (i := 555) (by decide +kernel), List.mem_of_getElem? (i := 556) (by decide +kernel)⟩
theorem lw_p17 : lw_okq (⟨"OnceCalls$Letter", "fifthPart", "()I"⟩, 15) := ⟨⟨by decide +kernel, by decide +kernel⟩, List.mem_of_getElem? (i := 248) (by decide +kernel), List.mem_of_getElem? (i := 559) (by decide +kernel), List.mem_of_getElem? (i := 560) (by decide +kernel)⟩
theorem lw_p18 : lw_okq (⟨"OnceCallsModel", "isLive", "(I)Z"⟩, 53) := ⟨⟨by decide +kernel, by decide +kernel⟩, List.mem_of_getElem? (i := 570) (by decide +kernel), List.mem_of_getElem? (i := 752) (by decide +kernel), List.mem_of_getElem? (i := 753) (by decide +kernel)⟩
theorem lw_p19 : lw_okq (⟨"OnceCallsModel", "waiting", "(I)I"⟩, 53) := ⟨⟨by decide +kernel, by decide +kernel⟩, List.mem_of_getElem? (i := 570) (by decide +kernel), List.mem_of_getElem? (i := 760) (by decide +kernel), List.mem_of_getElem? (i := 761) (by decide +kernel)⟩
theorem lw_p20 : lw_okq (⟨"OnceCallsModel", "request", "(II)V"⟩, 53) := ⟨⟨by decide +kernel, by decide +kernel⟩, List.mem_of_getElem? (i := 570) (by decide +kernel), List.mem_of_getElem? (i := 764) (by decide +kernel), List.mem_of_getElem? (i := 765) (by decide +kernel)⟩
theorem lw_p21 : lw_okq (⟨"OnceCallsModel", "letter", "(III)I"⟩, 53) := ⟨⟨by decide +kernel, by decide +kernel⟩, List.mem_of_getElem? (i := 570) (by decide +kernel), List.mem_of_getElem? (i := 768) (by decide +kernel), List.mem_of_getElem? (i := 769) (by decide +kernel)⟩
theorem lw_p22 : lw_okq (⟨"OnceCallsModel", "first", "(I)I"⟩, 53) := ⟨⟨by decide +kernel, by decide +kernel⟩, List.mem_of_getElem? (i := 570) (by decide +kernel), List.mem_of_getElem? (i := 772) (by decide +kernel), List.mem_of_getElem? (i := 773) (by decide +kernel)⟩
theorem lw_p23 : lw_okq (⟨"OnceCallsModel", "go", "(I)V"⟩, 53) := ⟨⟨by decide +kernel, by decide +kernel⟩, List.mem_of_getElem? (i := 570) (by decide +kernel), List.mem_of_getElem? (i := 776) (by decide +kernel), List.mem_of_getElem? (i := 777) (by decide +kernel)⟩
theorem lw_p24 : lw_okq (⟨"OnceCallsModel", "isCall", "(II)Z"⟩, 53) := ⟨⟨by decide +kernel, by decide +kernel⟩, List.mem_of_getElem? (i := 570) (by decide +kernel), List.mem_of_getElem? (i := 784) (by decide +kernel), List.mem_of_getElem? (i := 785) (by decide +kernel)⟩
theorem lw_p25 : lw_okq (⟨"OnceCallsModel", "isServer", "(I)Z"⟩, 53) := ⟨⟨by decide +kernel, by decide +kernel⟩, List.mem_of_getElem? (i := 570) (by decide +kernel), List.mem_of_getElem? (i := 792) (by decide +kernel), List.mem_of_getElem? (i := 793) (by decide +kernel)⟩
theorem lw_p26 : lw_okq (⟨"OnceCallsModel", "takeOut", "(I)I"⟩, 53) := ⟨⟨by decide +kernel, by decide +kernel⟩, List.mem_of_getElem? (i := 570) (by decide +kernel), List.mem_of_getElem? (i := 800) (by decide +kernel), List.mem_of_getElem? (i := 801) (by decide +kernel)⟩
theorem lw_p27 : lw_okq (⟨"OnceCallsModel", "asked", "(I)V"⟩, 53) := ⟨⟨by decide +kernel, by decide +kernel⟩, List.mem_of_getElem? (i := 570) (by decide +kernel), List.mem_of_getElem? (i := 804) (by decide +kernel), List.mem_of_getElem? (i := 805) (by decide +kernel)⟩
theorem lw_p28 : lw_okq (⟨"OnceCallsModel", "answer", "(IIIJ)V"⟩, 53) := ⟨⟨by decide +kernel, by decide +kernel⟩, List.mem_of_getElem? (i := 570) (by decide +kernel), List.mem_of_getElem? (i := 808) (by decide +kernel), List.mem_of_getElem? (i := 809) (by decide +kernel)⟩
theorem lw_p29 : lw_okq (⟨"OnceCallsModel", "sendFrom", "(II)V"⟩, 53) := ⟨⟨by decide +kernel, by decide +kernel⟩, List.mem_of_getElem? (i := 570) (by decide +kernel), List.mem_of_getElem? (i := 812) (by decide +kernel), List.mem_of_getElem? (i := 813) (by decide +kernel)⟩
theorem lw_p30 : lw_okq (⟨"OnceCallsModel", "know", "(IIIII)V"⟩, 53) := ⟨⟨by decide +kernel, by decide +kernel⟩, List.mem_of_getElem? (i := 570) (by decide +kernel), List.mem_of_getElem? (i := 816) (by decide +kernel), List.mem_of_getElem? (i := 817) (by decide +kernel)⟩
theorem lw_p31 : lw_okq (⟨"OnceCallsModel", "forget", "(II)V"⟩, 53) := ⟨⟨by decide +kernel, by decide +kernel⟩, List.mem_of_getElem? (i := 570) (by decide +kernel), List.mem_of_getElem? (i := 820) (by decide +kernel), List.mem_of_getElem? (i := 821) (by decide +kernel)⟩
def lw_privs_2 : List (MethodName × Nat) := [(⟨"OnceCalls$Letter", "fourthPart", "()I"⟩, 15), (⟨"OnceCalls$Letter", "fifthPart", "()I"⟩, 15), (⟨"OnceCallsModel", "isLive", "(I)Z"⟩, 53), (⟨"OnceCallsModel", "waiting", "(I)I"⟩, 53), (⟨"OnceCallsModel", "request", "(II)V"⟩, 53), (⟨"OnceCallsModel", "letter", "(III)I"⟩, 53), (⟨"OnceCallsModel", "first", "(I)I"⟩, 53), (⟨"OnceCallsModel", "go", "(I)V"⟩, 53), (⟨"OnceCallsModel", "isCall", "(II)Z"⟩, 53), (⟨"OnceCallsModel", "isServer", "(I)Z"⟩, 53), (⟨"OnceCallsModel", "takeOut", "(I)I"⟩, 53), (⟨"OnceCallsModel", "asked", "(I)V"⟩, 53), (⟨"OnceCallsModel", "answer", "(IIIJ)V"⟩, 53), (⟨"OnceCallsModel", "sendFrom", "(II)V"⟩, 53), (⟨"OnceCallsModel", "know", "(IIIII)V"⟩, 53), (⟨"OnceCallsModel", "forget", "(II)V"⟩, 53)]
theorem lw_r2 : ∀ q ∈ lw_privs_2, lw_okq q := List.forall_mem_cons.mpr ⟨lw_p16, List.forall_mem_cons.mpr ⟨lw_p17, List.forall_mem_cons.mpr ⟨lw_p18, List.forall_mem_cons.mpr ⟨lw_p19, List.forall_mem_cons.mpr ⟨lw_p20, List.forall_mem_cons.mpr ⟨lw_p21, List.forall_mem_cons.mpr ⟨lw_p22, List.forall_mem_cons.mpr ⟨lw_p23, List.forall_mem_cons.mpr ⟨lw_p24, List.forall_mem_cons.mpr ⟨lw_p25, List.forall_mem_cons.mpr ⟨lw_p26, List.forall_mem_cons.mpr ⟨lw_p27, List.forall_mem_cons.mpr ⟨lw_p28, List.forall_mem_cons.mpr ⟨lw_p29, List.forall_mem_cons.mpr ⟨lw_p30, List.forall_mem_cons.mpr ⟨lw_p31, fun _ h => absurd h List.not_mem_nil⟩⟩⟩⟩⟩⟩⟩⟩⟩⟩⟩⟩⟩⟩⟩⟩
theorem lw_p32 : lw_okq (⟨"OnceCallsModel", "effect", "(II)J"⟩, 53) := ⟨⟨by decide +kernel, by decide +kernel⟩, List.mem_of_getElem? (i := 570) (by decide +kernel), List.mem_of_getElem? (i := 824) (by decide +kernel), List.mem_of_getElem? (i := 825) (by decide +kernel)⟩
theorem lw_p33 : lw_okq (⟨"OnceCallsModel", "answered", "(I)V"⟩, 53) := ⟨⟨by decide +kernel, by decide +kernel⟩, List.mem_of_getElem? (i := 570) (by decide +kernel), List.mem_of_getElem? (i := 828) (by decide +kernel), List.mem_of_getElem? (i := 829) (by decide +kernel)⟩
theorem lw_p34 : lw_okq (⟨"OnceCallsModel", "moved", "(I)V"⟩, 53) := ⟨⟨by decide +kernel, by decide +kernel⟩, List.mem_of_getElem? (i := 570) (by decide +kernel), List.mem_of_getElem? (i := 832) (by decide +kernel), List.mem_of_getElem? (i := 833) (by decide +kernel)⟩
theorem lw_p35 : lw_okq (⟨"OnceCallsModel", "taken", "(I)V"⟩, 53) := ⟨⟨by decide +kernel, by decide +kernel⟩, List.mem_of_getElem? (i := 570) (by decide +kernel), List.mem_of_getElem? (i := 836) (by decide +kernel), List.mem_of_getElem? (i := 837) (by decide +kernel)⟩
theorem lw_p36 : lw_okq (⟨"OnceCallsModel", "copy", "(II)V"⟩, 53) := ⟨⟨by decide +kernel, by decide +kernel⟩, List.mem_of_getElem? (i := 570) (by decide +kernel), List.mem_of_getElem? (i := 852) (by decide +kernel), List.mem_of_getElem? (i := 853) (by decide +kernel)⟩
theorem lw_p37 : lw_okq (⟨"OnceCallsModel", "store", "(I)I"⟩, 53) := ⟨⟨by decide +kernel, by decide +kernel⟩, List.mem_of_getElem? (i := 570) (by decide +kernel), List.mem_of_getElem? (i := 884) (by decide +kernel), List.mem_of_getElem? (i := 885) (by decide +kernel)⟩
def lw_privs_3 : List (MethodName × Nat) := [(⟨"OnceCallsModel", "effect", "(II)J"⟩, 53), (⟨"OnceCallsModel", "answered", "(I)V"⟩, 53), (⟨"OnceCallsModel", "moved", "(I)V"⟩, 53), (⟨"OnceCallsModel", "taken", "(I)V"⟩, 53), (⟨"OnceCallsModel", "copy", "(II)V"⟩, 53), (⟨"OnceCallsModel", "store", "(I)I"⟩, 53)]
theorem lw_r3 : ∀ q ∈ lw_privs_3, lw_okq q := List.forall_mem_cons.mpr ⟨lw_p32, List.forall_mem_cons.mpr ⟨lw_p33, List.forall_mem_cons.mpr ⟨lw_p34, List.forall_mem_cons.mpr ⟨lw_p35, List.forall_mem_cons.mpr ⟨lw_p36, List.forall_mem_cons.mpr ⟨lw_p37, fun _ h => absurd h List.not_mem_nil⟩⟩⟩⟩⟩⟩
def lw_privs : List (MethodName × Nat) := lw_privs_1 ++ (lw_privs_2 ++ (lw_privs_3))
def lw_tbl : List Cond := k2_sels lw_privs ++ tables_1
theorem lw_privs_ok : ∀ q ∈ lw_privs, lw_okq q := by
  show ∀ q ∈ lw_privs_1 ++ (lw_privs_2 ++ (lw_privs_3)), lw_okq q
  exact List.forall_mem_append.mpr ⟨lw_r1, List.forall_mem_append.mpr ⟨lw_r2, lw_r3⟩⟩
end
section
/-! ===== BEGIN words of one list among another's, by their places ===== -/
theorem goodIn_r {big : List Cond} (ws : List Cond) (ps : List Nat) (hp : ws = ps.filterMap (fun i => big[i]?)) (h : ws.all goodWord = true) : GoodIn big ws := by
  intro w hw
  have h1 := List.all_eq_true.mp h w hw
  rw [hp] at hw
  obtain ⟨i, -, hi⟩ := List.mem_filterMap.mp hw
  have hm : w ∈ big := by first | exact List.mem_of_getElem? hi | exact List.getElem?_mem hi
  exact ⟨hm, good_of_word h1⟩
theorem goodIn_app {big a b : List Cond} (ha : GoodIn big a) (hb : GoodIn big b) : GoodIn big (a ++ b) := fun w h => (List.mem_append.mp h).elim (ha w) (hb w)
theorem goodIn_ca {big a b : List Cond} {c : Cond} (ha : GoodIn big (c :: a)) (hb : GoodIn big b) : GoodIn big (c :: (a ++ b)) := fun w h => (List.mem_cons.mp h).elim (fun e => ha w (List.mem_cons.mpr (Or.inl e))) (fun h => (List.mem_append.mp h).elim (fun h => ha w (List.mem_cons.mpr (Or.inr h))) (hb w))
theorem goodIn_sub {big ws : List Cond} (hm : ∀ w ∈ ws, w ∈ big) (h : ws.all goodWord = true) : GoodIn big ws := fun w hw => ⟨hm w hw, good_of_word (List.all_eq_true.mp h w hw)⟩
/-! ===== END ===== -/
/-! ===== BEGIN printed: names, fields, word lists, decode rows ===== -/
def RX0 : String := "OnceCalls$Bucket"
def TX0 : u_T := fun k => match k with
  | 0 => ("OnceCalls$Bucket", "status", "I", false)
  | 1 => ("OnceCalls$Bucket", "version", "I", false)
  | 2 => ("OnceCalls$Bucket", "hint", "I", false)
  | 3 => ("OnceCalls$Bucket", "records", "I", false)
  | 4 => ("OnceCalls$Bucket", "values", "[J", true)
  | 5 => ("OnceCalls$Bucket", "recordClients", "[I", true)
  | 6 => ("OnceCalls$Bucket", "recordIncarnations", "[I", true)
  | 7 => ("OnceCalls$Bucket", "recordNumbers", "[I", true)
  | 8 => ("OnceCalls$Bucket", "recordResults", "[J", true)
  | 9 => ("OnceCalls$Bucket", "incarnations", "[I", true)
  | _ => ("OnceCalls$Bucket", "firsts", "[I", true)
def tyX0 : Nat → FieldType := fun k => match k with
  | 0 => .int
  | 1 => .int
  | 2 => .int
  | 3 => .int
  | 4 => .array .long
  | 5 => .array .int
  | 6 => .array .int
  | 7 => .array .int
  | 8 => .array .long
  | 9 => .array .int
  | _ => .array .int
abbrev wsX00 : List Cond := u_ws RX0 TX0 11
theorem nmX0 : ∀ a, a < 11 → ∀ b, b < 11 → a ≠ b → (TX0 a).2.1 ≠ (TX0 b).2.1 := by decide +kernel
theorem tyX0_ok : ∀ k, k < 11 → parseFieldDescriptor (TX0 k).2.2.1 = some (tyX0 k) := by decide +kernel
abbrev cX0_init : ByteArray := prog_2_method_1_code
def yX0_init : MethodName := ⟨RX0, "<init>", "()V"⟩
abbrev cX0_copyFrom : ByteArray := prog_2_method_2_code
def yX0_copyFrom : MethodName := ⟨RX0, "copyFrom", "(LOnceCalls$Bucket;)V"⟩
abbrev cX0_empty : ByteArray := prog_2_method_3_code
def yX0_empty : MethodName := ⟨RX0, "empty", "()V"⟩
abbrev cX0_canLeaveFor : ByteArray := prog_2_method_4_code
def yX0_canLeaveFor : MethodName := ⟨RX0, "canLeaveFor", "(I)Z"⟩
abbrev cX0_firstOf : ByteArray := prog_2_method_5_code
def yX0_firstOf : MethodName := ⟨RX0, "firstOf", "(I)I"⟩
abbrev cX0_know : ByteArray := prog_2_method_6_code
def yX0_know : MethodName := ⟨RX0, "know", "(LOnceCalls$Letter;)Z"⟩
abbrev cX0_removeRecordsBelow : ByteArray := prog_2_method_7_code
def yX0_removeRecordsBelow : MethodName := ⟨RX0, "removeRecordsBelow", "(II)V"⟩
abbrev cX0_removeRecord : ByteArray := prog_2_method_8_code
def yX0_removeRecord : MethodName := ⟨RX0, "removeRecord", "(I)V"⟩
abbrev cX0_find : ByteArray := prog_2_method_9_code
def yX0_find : MethodName := ⟨RX0, "find", "(LOnceCalls$Letter;)I"⟩
abbrev cX0_addRecord : ByteArray := prog_2_method_10_code
def yX0_addRecord : MethodName := ⟨RX0, "addRecord", "(LOnceCalls$Letter;J)V"⟩
abbrev cX0_doAct : ByteArray := prog_2_method_11_code
def yX0_doAct : MethodName := ⟨RX0, "doAct", "(LOnceCalls$Letter;)J"⟩
def RX1 : String := "OnceCalls$Client"
def TX1 : u_T := fun k => match k with
  | 0 => ("OnceCalls$Client", "index", "I", true)
  | 1 => ("OnceCalls$Client", "incarnation", "I", false)
  | 2 => ("OnceCalls$Client", "leaseEnd", "I", false)
  | 3 => ("OnceCalls$Client", "calls", "I", false)
  | 4 => ("OnceCalls$Client", "guesses", "[I", true)
  | 5 => ("OnceCalls$Client", "keys", "[I", true)
  | 6 => ("OnceCalls$Client", "acts", "[I", true)
  | 7 => ("OnceCalls$Client", "as", "[J", true)
  | 8 => ("OnceCalls$Client", "bs", "[J", true)
  | 9 => ("OnceCalls$Client", "states", "[I", true)
  | _ => ("OnceCalls$Client", "results", "[J", true)
def tyX1 : Nat → FieldType := fun k => match k with
  | 0 => .int
  | 1 => .int
  | 2 => .int
  | 3 => .int
  | 4 => .array .int
  | 5 => .array .int
  | 6 => .array .int
  | 7 => .array .long
  | 8 => .array .long
  | 9 => .array .int
  | _ => .array .long
abbrev wsX10 : List Cond := u_ws RX1 TX1 11
theorem nmX1 : ∀ a, a < 11 → ∀ b, b < 11 → a ≠ b → (TX1 a).2.1 ≠ (TX1 b).2.1 := by decide +kernel
theorem tyX1_ok : ∀ k, k < 11 → parseFieldDescriptor (TX1 k).2.2.1 = some (tyX1 k) := by decide +kernel
abbrev cX1_init : ByteArray := prog_3_method_1_code
def yX1_init : MethodName := ⟨RX1, "<init>", "(II)V"⟩
abbrev cX1_hasCall : ByteArray := prog_3_method_2_code
def yX1_hasCall : MethodName := ⟨RX1, "hasCall", "(I)Z"⟩
abbrev cX1_newCall : ByteArray := prog_3_method_3_code
def yX1_newCall : MethodName := ⟨RX1, "newCall", "(IIJJ)I"⟩
abbrev cX1_first : ByteArray := prog_3_method_4_code
def yX1_first : MethodName := ⟨RX1, "first", "()I"⟩
abbrev cX1_waiting : ByteArray := prog_3_method_5_code
def yX1_waiting : MethodName := ⟨RX1, "waiting", "()I"⟩
abbrev cX1_refuseWaiting : ByteArray := prog_3_method_6_code
def yX1_refuseWaiting : MethodName := ⟨RX1, "refuseWaiting", "()V"⟩
def RX2 : String := "OnceCalls$Letter"
def TX2 : u_T := fun k => match k with
  | 0 => ("OnceCalls$Letter", "kind", "I", true)
  | 1 => ("OnceCalls$Letter", "to", "I", true)
  | 2 => ("OnceCalls$Letter", "from", "I", true)
  | 3 => ("OnceCalls$Letter", "incarnation", "I", false)
  | 4 => ("OnceCalls$Letter", "version", "I", false)
  | 5 => ("OnceCalls$Letter", "number", "I", false)
  | 6 => ("OnceCalls$Letter", "first", "I", false)
  | 7 => ("OnceCalls$Letter", "bucket", "I", false)
  | 8 => ("OnceCalls$Letter", "code", "I", false)
  | 9 => ("OnceCalls$Letter", "key", "I", false)
  | 10 => ("OnceCalls$Letter", "act", "I", false)
  | 11 => ("OnceCalls$Letter", "a", "J", false)
  | 12 => ("OnceCalls$Letter", "b", "J", false)
  | 13 => ("OnceCalls$Letter", "result", "J", false)
  | _ => ("OnceCalls$Letter", "load", "LOnceCalls$Bucket;", false)
def tyX2 : Nat → FieldType := fun k => match k with
  | 0 => .int
  | 1 => .int
  | 2 => .int
  | 3 => .int
  | 4 => .int
  | 5 => .int
  | 6 => .int
  | 7 => .int
  | 8 => .int
  | 9 => .int
  | 10 => .int
  | 11 => .long
  | 12 => .long
  | 13 => .long
  | _ => .object "OnceCalls$Bucket"
abbrev wsX20 : List Cond := u_ws RX2 TX2 15
theorem nmX2 : ∀ a, a < 15 → ∀ b, b < 15 → a ≠ b → (TX2 a).2.1 ≠ (TX2 b).2.1 := by decide +kernel
theorem tyX2_ok : ∀ k, k < 15 → parseFieldDescriptor (TX2 k).2.2.1 = some (tyX2 k) := by decide +kernel
abbrev cX2_init : ByteArray := prog_4_method_1_code
def yX2_init : MethodName := ⟨RX2, "<init>", "(III)V"⟩
abbrev cX2_isBetweenServers : ByteArray := prog_4_method_2_code
def yX2_isBetweenServers : MethodName := ⟨RX2, "isBetweenServers", "()Z"⟩
abbrev cX2_part : ByteArray := prog_4_method_3_code
def yX2_part : MethodName := ⟨RX2, "part", "(I)I"⟩
abbrev cX2_fourthPart : ByteArray := prog_4_method_4_code
def yX2_fourthPart : MethodName := ⟨RX2, "fourthPart", "()I"⟩
abbrev cX2_fifthPart : ByteArray := prog_4_method_5_code
def yX2_fifthPart : MethodName := ⟨RX2, "fifthPart", "()I"⟩
def RX3 : String := "OnceCalls$Row"
def TX3 : u_T := fun k => match k with
  | 0 => ("OnceCalls$Row", "letters", "[LOnceCalls$Letter;", true)
  | _ => ("OnceCalls$Row", "size", "I", false)
def tyX3 : Nat → FieldType := fun k => match k with
  | 0 => .array (.object "OnceCalls$Letter")
  | _ => .int
abbrev wsX30 : List Cond := u_ws RX3 TX3 2
theorem nmX3 : ∀ a, a < 2 → ∀ b, b < 2 → a ≠ b → (TX3 a).2.1 ≠ (TX3 b).2.1 := by decide +kernel
theorem tyX3_ok : ∀ k, k < 2 → parseFieldDescriptor (TX3 k).2.2.1 = some (tyX3 k) := by decide +kernel
abbrev cX3_init : ByteArray := prog_5_method_1_code
def yX3_init : MethodName := ⟨RX3, "<init>", "(I)V"⟩
abbrev cX3_at : ByteArray := prog_5_method_2_code
def yX3_at : MethodName := ⟨RX3, "at", "(I)LOnceCalls$Letter;"⟩
abbrev cX3_append : ByteArray := prog_5_method_3_code
def yX3_append : MethodName := ⟨RX3, "append", "(LOnceCalls$Letter;)Z"⟩
abbrev cX3_removeAt : ByteArray := prog_5_method_4_code
def yX3_removeAt : MethodName := ⟨RX3, "removeAt", "(I)V"⟩
abbrev cX3_clear : ByteArray := prog_5_method_5_code
def yX3_clear : MethodName := ⟨RX3, "clear", "()V"⟩
def RX4 : String := "OnceCalls$Server"
def TX4 : u_T := fun k => match k with
  | 0 => ("OnceCalls$Server", "index", "I", true)
  | 1 => ("OnceCalls$Server", "held", "LOnceCalls$Row;", true)
  | 2 => ("OnceCalls$Server", "memory", "[LOnceCalls$Bucket;", true)
  | 3 => ("OnceCalls$Server", "kept", "[LOnceCalls$Bucket;", true)
  | 4 => ("OnceCalls$Server", "up", "Z", false)
  | _ => ("OnceCalls$Server", "clean", "Z", false)
def tyX4 : Nat → FieldType := fun k => match k with
  | 0 => .int
  | 1 => .object "OnceCalls$Row"
  | 2 => .array (.object "OnceCalls$Bucket")
  | 3 => .array (.object "OnceCalls$Bucket")
  | 4 => .boolean
  | _ => .boolean
abbrev wsX40 : List Cond := u_ws RX4 TX4 6
theorem nmX4 : ∀ a, a < 6 → ∀ b, b < 6 → a ≠ b → (TX4 a).2.1 ≠ (TX4 b).2.1 := by decide +kernel
theorem tyX4_ok : ∀ k, k < 6 → parseFieldDescriptor (TX4 k).2.2.1 = some (tyX4 k) := by decide +kernel
abbrev cX4_init : ByteArray := prog_6_method_1_code
def yX4_init : MethodName := ⟨RX4, "<init>", "(II)V"⟩
abbrev cX4_bucketAt : ByteArray := prog_6_method_2_code
def yX4_bucketAt : MethodName := ⟨RX4, "bucketAt", "(I)LOnceCalls$Bucket;"⟩
abbrev cX4_keep : ByteArray := prog_6_method_3_code
def yX4_keep : MethodName := ⟨RX4, "keep", "()V"⟩
abbrev cX4_restore : ByteArray := prog_6_method_4_code
def yX4_restore : MethodName := ⟨RX4, "restore", "()V"⟩
abbrev cX4_recordsInAll : ByteArray := prog_6_method_5_code
def yX4_recordsInAll : MethodName := ⟨RX4, "recordsInAll", "()I"⟩
def RX5 : String := "OnceCalls"
def TX5 : u_T := fun k => match k with
  | 0 => ("OnceCalls", "servers", "[LOnceCalls$Server;", true)
  | 1 => ("OnceCalls", "clients", "[LOnceCalls$Client;", true)
  | 2 => ("OnceCalls", "row", "LOnceCalls$Row;", true)
  | 3 => ("OnceCalls", "lease", "I", true)
  | 4 => ("OnceCalls", "time", "I", false)
  | 5 => ("OnceCalls", "incarnations", "I", false)
  | 6 => ("OnceCalls", "lost", "I", false)
  | 7 => ("OnceCalls", "effects", "I", false)
  | _ => ("OnceCalls", "done", "I", false)
def tyX5 : Nat → FieldType := fun k => match k with
  | 0 => .array (.object "OnceCalls$Server")
  | 1 => .array (.object "OnceCalls$Client")
  | 2 => .object "OnceCalls$Row"
  | 3 => .int
  | 4 => .int
  | 5 => .int
  | 6 => .int
  | 7 => .int
  | _ => .int
abbrev wsX50 : List Cond := u_ws RX5 TX5 9
theorem nmX5 : ∀ a, a < 9 → ∀ b, b < 9 → a ≠ b → (TX5 a).2.1 ≠ (TX5 b).2.1 := by decide +kernel
theorem tyX5_ok : ∀ k, k < 9 → parseFieldDescriptor (TX5 k).2.2.1 = some (tyX5 k) := by decide +kernel
abbrev cX5_init : ByteArray := prog_1_method_1_code
def yX5_init : MethodName := ⟨RX5, "<init>", "(II)V"⟩
abbrev cX5_open : ByteArray := prog_1_method_2_code
def yX5_open : MethodName := ⟨RX5, "open", "(I)I"⟩
abbrev cX5_renew : ByteArray := prog_1_method_3_code
def yX5_renew : MethodName := ⟨RX5, "renew", "(I)I"⟩
abbrev cX5_call : ByteArray := prog_1_method_4_code
def yX5_call : MethodName := ⟨RX5, "call", "(IIIJJ)I"⟩
abbrev cX5_retry : ByteArray := prog_1_method_5_code
def yX5_retry : MethodName := ⟨RX5, "retry", "(II)I"⟩
abbrev cX5_ack : ByteArray := prog_1_method_6_code
def yX5_ack : MethodName := ⟨RX5, "ack", "(II)I"⟩
abbrev cX5_deliver : ByteArray := prog_1_method_7_code
def yX5_deliver : MethodName := ⟨RX5, "deliver", "(I)I"⟩
abbrev cX5_drop : ByteArray := prog_1_method_8_code
def yX5_drop : MethodName := ⟨RX5, "drop", "(I)I"⟩
abbrev cX5_twin : ByteArray := prog_1_method_9_code
def yX5_twin : MethodName := ⟨RX5, "twin", "(I)I"⟩
abbrev cX5_sync : ByteArray := prog_1_method_10_code
def yX5_sync : MethodName := ⟨RX5, "sync", "(I)I"⟩
abbrev cX5_crash : ByteArray := prog_1_method_11_code
def yX5_crash : MethodName := ⟨RX5, "crash", "(I)I"⟩
abbrev cX5_start : ByteArray := prog_1_method_12_code
def yX5_start : MethodName := ⟨RX5, "start", "(I)I"⟩
abbrev cX5_move : ByteArray := prog_1_method_13_code
def yX5_move : MethodName := ⟨RX5, "move", "(III)I"⟩
abbrev cX5_collect : ByteArray := prog_1_method_14_code
def yX5_collect : MethodName := ⟨RX5, "collect", "(I)I"⟩
abbrev cX5_ticks : ByteArray := prog_1_method_15_code
def yX5_ticks : MethodName := ⟨RX5, "ticks", "(I)I"⟩
abbrev cX5_server : ByteArray := prog_1_method_16_code
def yX5_server : MethodName := ⟨RX5, "server", "(II)I"⟩
abbrev cX5_bucket : ByteArray := prog_1_method_17_code
def yX5_bucket : MethodName := ⟨RX5, "bucket", "(III)I"⟩
abbrev cX5_value : ByteArray := prog_1_method_18_code
def yX5_value : MethodName := ⟨RX5, "value", "(II)J"⟩
abbrev cX5_record : ByteArray := prog_1_method_19_code
def yX5_record : MethodName := ⟨RX5, "record", "(IIII)I"⟩
abbrev cX5_client : ByteArray := prog_1_method_20_code
def yX5_client : MethodName := ⟨RX5, "client", "(II)I"⟩
abbrev cX5_state : ByteArray := prog_1_method_21_code
def yX5_state : MethodName := ⟨RX5, "state", "(II)I"⟩
abbrev cX5_result : ByteArray := prog_1_method_22_code
def yX5_result : MethodName := ⟨RX5, "result", "(II)J"⟩
abbrev cX5_letter : ByteArray := prog_1_method_23_code
def yX5_letter : MethodName := ⟨RX5, "letter", "(II)I"⟩
abbrev cX5_count : ByteArray := prog_1_method_24_code
def yX5_count : MethodName := ⟨RX5, "count", "(I)I"⟩
abbrev cX5_clientAt : ByteArray := prog_1_method_25_code
def yX5_clientAt : MethodName := ⟨RX5, "clientAt", "(I)LOnceCalls$Client;"⟩
abbrev cX5_serverAt : ByteArray := prog_1_method_26_code
def yX5_serverAt : MethodName := ⟨RX5, "serverAt", "(I)LOnceCalls$Server;"⟩
abbrev cX5_bucketAt : ByteArray := prog_1_method_27_code
def yX5_bucketAt : MethodName := ⟨RX5, "bucketAt", "(II)LOnceCalls$Bucket;"⟩
abbrev cX5_isLive : ByteArray := prog_1_method_28_code
def yX5_isLive : MethodName := ⟨RX5, "isLive", "(II)Z"⟩
abbrev cX5_send : ByteArray := prog_1_method_29_code
def yX5_send : MethodName := ⟨RX5, "send", "(LOnceCalls$Letter;)V"⟩
abbrev cX5_sendFrom : ByteArray := prog_1_method_30_code
def yX5_sendFrom : MethodName := ⟨RX5, "sendFrom", "(LOnceCalls$Server;LOnceCalls$Letter;)V"⟩
abbrev cX5_takeAnswer : ByteArray := prog_1_method_31_code
def yX5_takeAnswer : MethodName := ⟨RX5, "takeAnswer", "(LOnceCalls$Letter;)V"⟩
abbrev cX5_takeAtServer : ByteArray := prog_1_method_32_code
def yX5_takeAtServer : MethodName := ⟨RX5, "takeAtServer", "(LOnceCalls$Server;LOnceCalls$Letter;)V"⟩
abbrev cX5_takeRequest : ByteArray := prog_1_method_33_code
def yX5_takeRequest : MethodName := ⟨RX5, "takeRequest", "(LOnceCalls$Server;LOnceCalls$Letter;)V"⟩
abbrev cX5_takeOwnRequest : ByteArray := prog_1_method_34_code
def yX5_takeOwnRequest : MethodName := ⟨RX5, "takeOwnRequest", "(LOnceCalls$Server;LOnceCalls$Bucket;LOnceCalls$Letter;)V"⟩
abbrev cX5_answer : ByteArray := prog_1_method_35_code
def yX5_answer : MethodName := ⟨RX5, "answer", "(LOnceCalls$Server;LOnceCalls$Letter;IJ)V"⟩
abbrev cX5_takeMove : ByteArray := prog_1_method_36_code
def yX5_takeMove : MethodName := ⟨RX5, "takeMove", "(LOnceCalls$Server;LOnceCalls$Letter;)V"⟩
abbrev cX5_takeTaken : ByteArray := prog_1_method_37_code
def yX5_takeTaken : MethodName := ⟨RX5, "takeTaken", "(LOnceCalls$Server;LOnceCalls$Letter;)V"⟩
abbrev cX5_takeAck : ByteArray := prog_1_method_38_code
def yX5_takeAck : MethodName := ⟨RX5, "takeAck", "(LOnceCalls$Server;LOnceCalls$Letter;)V"⟩
abbrev cX5_removeDeadRecords : ByteArray := prog_1_method_39_code
def yX5_removeDeadRecords : MethodName := ⟨RX5, "removeDeadRecords", "(LOnceCalls$Bucket;)I"⟩
abbrev cX5_requestOf : ByteArray := prog_1_method_40_code
def yX5_requestOf : MethodName := ⟨RX5, "requestOf", "(LOnceCalls$Client;I)LOnceCalls$Letter;"⟩
abbrev cX5_bucketOf : ByteArray := prog_1_method_41_code
def yX5_bucketOf : MethodName := ⟨RX5, "bucketOf", "(I)I"⟩
abbrev cX5_placeOf : ByteArray := prog_1_method_42_code
def yX5_placeOf : MethodName := ⟨RX5, "placeOf", "(I)I"⟩
abbrev cX5_oneIf : ByteArray := prog_1_method_43_code
def yX5_oneIf : MethodName := ⟨RX5, "oneIf", "(Z)I"⟩
def RX6 : String := "OnceCallsModel"
def TX6 : u_T := fun k => match k with
  | 0 => ("OnceCallsModel", "servers", "I", true)
  | 1 => ("OnceCallsModel", "lease", "I", true)
  | 2 => ("OnceCallsModel", "time", "I", false)
  | 3 => ("OnceCallsModel", "lost", "I", false)
  | 4 => ("OnceCallsModel", "effects", "I", false)
  | 5 => ("OnceCallsModel", "done", "I", false)
  | 6 => ("OnceCallsModel", "opened", "I", false)
  | 7 => ("OnceCallsModel", "incarnation", "[I", true)
  | 8 => ("OnceCallsModel", "ends", "[I", true)
  | 9 => ("OnceCallsModel", "calls", "[I", true)
  | 10 => ("OnceCallsModel", "guess", "[I", true)
  | 11 => ("OnceCallsModel", "state", "[I", true)
  | 12 => ("OnceCallsModel", "result", "[J", true)
  | 13 => ("OnceCallsModel", "keys", "[I", true)
  | 14 => ("OnceCallsModel", "acts", "[I", true)
  | 15 => ("OnceCallsModel", "firstOf", "[J", true)
  | 16 => ("OnceCallsModel", "secondOf", "[J", true)
  | 17 => ("OnceCallsModel", "status", "[I", true)
  | 18 => ("OnceCallsModel", "version", "[I", true)
  | 19 => ("OnceCallsModel", "hint", "[I", true)
  | 20 => ("OnceCallsModel", "values", "[J", true)
  | 21 => ("OnceCallsModel", "size", "[I", true)
  | 22 => ("OnceCallsModel", "recordClient", "[I", true)
  | 23 => ("OnceCallsModel", "recordIncarnation", "[I", true)
  | 24 => ("OnceCallsModel", "recordNumber", "[I", true)
  | 25 => ("OnceCallsModel", "recordResult", "[J", true)
  | 26 => ("OnceCallsModel", "known", "[I", true)
  | 27 => ("OnceCallsModel", "knownFirst", "[I", true)
  | 28 => ("OnceCallsModel", "up", "[Z", true)
  | 29 => ("OnceCallsModel", "dirty", "[Z", true)
  | 30 => ("OnceCallsModel", "used", "[Z", true)
  | 31 => ("OnceCallsModel", "kind", "[I", true)
  | 32 => ("OnceCallsModel", "to", "[I", true)
  | 33 => ("OnceCallsModel", "from", "[I", true)
  | 34 => ("OnceCallsModel", "nr", "[I", true)
  | 35 => ("OnceCallsModel", "number", "[I", true)
  | 36 => ("OnceCallsModel", "info", "[I", true)
  | 37 => ("OnceCallsModel", "key", "[I", true)
  | 38 => ("OnceCallsModel", "act", "[I", true)
  | 39 => ("OnceCallsModel", "a", "[J", true)
  | 40 => ("OnceCallsModel", "b", "[J", true)
  | 41 => ("OnceCallsModel", "movedValues", "[J", true)
  | 42 => ("OnceCallsModel", "movedClient", "[I", true)
  | 43 => ("OnceCallsModel", "movedIncarnation", "[I", true)
  | 44 => ("OnceCallsModel", "movedNumber", "[I", true)
  | 45 => ("OnceCallsModel", "movedResult", "[J", true)
  | 46 => ("OnceCallsModel", "movedKnown", "[I", true)
  | 47 => ("OnceCallsModel", "movedFirst", "[I", true)
  | 48 => ("OnceCallsModel", "free", "I", false)
  | 49 => ("OnceCallsModel", "row", "[I", true)
  | 50 => ("OnceCallsModel", "letters", "I", false)
  | 51 => ("OnceCallsModel", "held", "[I", true)
  | _ => ("OnceCallsModel", "heldMany", "[I", true)
def tyX6 : Nat → FieldType := fun k => match k with
  | 0 => .int
  | 1 => .int
  | 2 => .int
  | 3 => .int
  | 4 => .int
  | 5 => .int
  | 6 => .int
  | 7 => .array .int
  | 8 => .array .int
  | 9 => .array .int
  | 10 => .array .int
  | 11 => .array .int
  | 12 => .array .long
  | 13 => .array .int
  | 14 => .array .int
  | 15 => .array .long
  | 16 => .array .long
  | 17 => .array .int
  | 18 => .array .int
  | 19 => .array .int
  | 20 => .array .long
  | 21 => .array .int
  | 22 => .array .int
  | 23 => .array .int
  | 24 => .array .int
  | 25 => .array .long
  | 26 => .array .int
  | 27 => .array .int
  | 28 => .array .boolean
  | 29 => .array .boolean
  | 30 => .array .boolean
  | 31 => .array .int
  | 32 => .array .int
  | 33 => .array .int
  | 34 => .array .int
  | 35 => .array .int
  | 36 => .array .int
  | 37 => .array .int
  | 38 => .array .int
  | 39 => .array .long
  | 40 => .array .long
  | 41 => .array .long
  | 42 => .array .int
  | 43 => .array .int
  | 44 => .array .int
  | 45 => .array .long
  | 46 => .array .int
  | 47 => .array .int
  | 48 => .int
  | 49 => .array .int
  | 50 => .int
  | 51 => .array .int
  | _ => .array .int
abbrev wsX60 : List Cond := u_ws RX6 TX6 53
theorem nmX6 : ∀ a, a < 53 → ∀ b, b < 53 → a ≠ b → (TX6 a).2.1 ≠ (TX6 b).2.1 := by decide +kernel
theorem tyX6_ok : ∀ k, k < 53 → parseFieldDescriptor (TX6 k).2.2.1 = some (tyX6 k) := by decide +kernel
abbrev cX6_init : ByteArray := prog_8_method_1_code
def yX6_init : MethodName := ⟨RX6, "<init>", "(II)V"⟩
abbrev cX6_in : ByteArray := prog_8_method_3_code
def yX6_in : MethodName := ⟨RX6, "in", "(III)Z"⟩
abbrev cX6_isClient : ByteArray := prog_8_method_4_code
def yX6_isClient : MethodName := ⟨RX6, "isClient", "(I)Z"⟩
abbrev cX6_isServer : ByteArray := prog_8_method_5_code
def yX6_isServer : MethodName := ⟨RX6, "isServer", "(I)Z"⟩
abbrev cX6_isLive : ByteArray := prog_8_method_6_code
def yX6_isLive : MethodName := ⟨RX6, "isLive", "(I)Z"⟩
abbrev cX6_first : ByteArray := prog_8_method_7_code
def yX6_first : MethodName := ⟨RX6, "first", "(I)I"⟩
abbrev cX6_letter : ByteArray := prog_8_method_8_code
def yX6_letter : MethodName := ⟨RX6, "letter", "(III)I"⟩
abbrev cX6_go : ByteArray := prog_8_method_9_code
def yX6_go : MethodName := ⟨RX6, "go", "(I)V"⟩
abbrev cX6_sendFrom : ByteArray := prog_8_method_10_code
def yX6_sendFrom : MethodName := ⟨RX6, "sendFrom", "(II)V"⟩
abbrev cX6_takeOut : ByteArray := prog_8_method_11_code
def yX6_takeOut : MethodName := ⟨RX6, "takeOut", "(I)I"⟩
abbrev cX6_open : ByteArray := prog_8_method_12_code
def yX6_open : MethodName := ⟨RX6, "open", "(I)I"⟩
abbrev cX6_renew : ByteArray := prog_8_method_13_code
def yX6_renew : MethodName := ⟨RX6, "renew", "(I)I"⟩
abbrev cX6_waiting : ByteArray := prog_8_method_14_code
def yX6_waiting : MethodName := ⟨RX6, "waiting", "(I)I"⟩
abbrev cX6_request : ByteArray := prog_8_method_15_code
def yX6_request : MethodName := ⟨RX6, "request", "(II)V"⟩
abbrev cX6_call : ByteArray := prog_8_method_16_code
def yX6_call : MethodName := ⟨RX6, "call", "(IIIJJ)I"⟩
abbrev cX6_isCall : ByteArray := prog_8_method_17_code
def yX6_isCall : MethodName := ⟨RX6, "isCall", "(II)Z"⟩
abbrev cX6_retry : ByteArray := prog_8_method_18_code
def yX6_retry : MethodName := ⟨RX6, "retry", "(II)I"⟩
abbrev cX6_ack : ByteArray := prog_8_method_19_code
def yX6_ack : MethodName := ⟨RX6, "ack", "(II)I"⟩
abbrev cX6_answered : ByteArray := prog_8_method_20_code
def yX6_answered : MethodName := ⟨RX6, "answered", "(I)V"⟩
abbrev cX6_forget : ByteArray := prog_8_method_21_code
def yX6_forget : MethodName := ⟨RX6, "forget", "(II)V"⟩
abbrev cX6_know : ByteArray := prog_8_method_22_code
def yX6_know : MethodName := ⟨RX6, "know", "(IIIII)V"⟩
abbrev cX6_answer : ByteArray := prog_8_method_23_code
def yX6_answer : MethodName := ⟨RX6, "answer", "(IIIJ)V"⟩
abbrev cX6_asked : ByteArray := prog_8_method_24_code
def yX6_asked : MethodName := ⟨RX6, "asked", "(I)V"⟩
abbrev cX6_effect : ByteArray := prog_8_method_25_code
def yX6_effect : MethodName := ⟨RX6, "effect", "(II)J"⟩
abbrev cX6_moved : ByteArray := prog_8_method_26_code
def yX6_moved : MethodName := ⟨RX6, "moved", "(I)V"⟩
abbrev cX6_taken : ByteArray := prog_8_method_27_code
def yX6_taken : MethodName := ⟨RX6, "taken", "(I)V"⟩
abbrev cX6_deliver : ByteArray := prog_8_method_28_code
def yX6_deliver : MethodName := ⟨RX6, "deliver", "(I)I"⟩
abbrev cX6_drop : ByteArray := prog_8_method_29_code
def yX6_drop : MethodName := ⟨RX6, "drop", "(I)I"⟩
abbrev cX6_twin : ByteArray := prog_8_method_30_code
def yX6_twin : MethodName := ⟨RX6, "twin", "(I)I"⟩
abbrev cX6_copy : ByteArray := prog_8_method_31_code
def yX6_copy : MethodName := ⟨RX6, "copy", "(II)V"⟩
abbrev cX6_sync : ByteArray := prog_8_method_32_code
def yX6_sync : MethodName := ⟨RX6, "sync", "(I)I"⟩
abbrev cX6_crash : ByteArray := prog_8_method_33_code
def yX6_crash : MethodName := ⟨RX6, "crash", "(I)I"⟩
abbrev cX6_start : ByteArray := prog_8_method_34_code
def yX6_start : MethodName := ⟨RX6, "start", "(I)I"⟩
abbrev cX6_move : ByteArray := prog_8_method_35_code
def yX6_move : MethodName := ⟨RX6, "move", "(III)I"⟩
abbrev cX6_collect : ByteArray := prog_8_method_36_code
def yX6_collect : MethodName := ⟨RX6, "collect", "(I)I"⟩
abbrev cX6_ticks : ByteArray := prog_8_method_37_code
def yX6_ticks : MethodName := ⟨RX6, "ticks", "(I)I"⟩
abbrev cX6_store : ByteArray := prog_8_method_38_code
def yX6_store : MethodName := ⟨RX6, "store", "(I)I"⟩
abbrev cX6_server : ByteArray := prog_8_method_39_code
def yX6_server : MethodName := ⟨RX6, "server", "(II)I"⟩
abbrev cX6_bucket : ByteArray := prog_8_method_40_code
def yX6_bucket : MethodName := ⟨RX6, "bucket", "(III)I"⟩
abbrev cX6_value : ByteArray := prog_8_method_41_code
def yX6_value : MethodName := ⟨RX6, "value", "(II)J"⟩
abbrev cX6_record : ByteArray := prog_8_method_42_code
def yX6_record : MethodName := ⟨RX6, "record", "(IIII)I"⟩
abbrev cX6_client : ByteArray := prog_8_method_43_code
def yX6_client : MethodName := ⟨RX6, "client", "(II)I"⟩
abbrev cX6_state : ByteArray := prog_8_method_44_code
def yX6_state : MethodName := ⟨RX6, "state", "(II)I"⟩
abbrev cX6_result : ByteArray := prog_8_method_45_code
def yX6_result : MethodName := ⟨RX6, "result", "(II)J"⟩
abbrev cX6_letter_ : ByteArray := prog_8_method_46_code
def yX6_letter_ : MethodName := ⟨RX6, "letter", "(II)I"⟩
abbrev cX6_count : ByteArray := prog_8_method_47_code
def yX6_count : MethodName := ⟨RX6, "count", "(I)I"⟩
def RJ9 : String := "java/lang/Math"
def TJ9 : u_T := fun k => match k with
  | _ => ("", "", "", false)
def tyJ9 : Nat → FieldType := fun k => match k with
  | _ => .int
abbrev wsJ90 : List Cond := u_ws RJ9 TJ9 0
theorem nmJ9 : ∀ a, a < 0 → ∀ b, b < 0 → a ≠ b → (TJ9 a).2.1 ≠ (TJ9 b).2.1 := by decide +kernel
theorem tyJ9_ok : ∀ k, k < 0 → parseFieldDescriptor (TJ9 k).2.2.1 = some (tyJ9 k) := by decide +kernel
abbrev cJ9_max_7cf53 : ByteArray := prog_9_method_65_code
def yJ9_max_7cf53 : MethodName := ⟨RJ9, "max", "(II)I"⟩
def RJ10 : String := "java/lang/System"
def TJ10 : u_T := fun k => match k with
  | _ => ("", "", "", false)
def tyJ10 : Nat → FieldType := fun k => match k with
  | _ => .int
abbrev wsJ100 : List Cond := u_ws RJ10 TJ10 0
theorem nmJ10 : ∀ a, a < 0 → ∀ b, b < 0 → a ≠ b → (TJ10 a).2.1 ≠ (TJ10 b).2.1 := by decide +kernel
theorem tyJ10_ok : ∀ k, k < 0 → parseFieldDescriptor (TJ10 k).2.2.1 = some (tyJ10 k) := by decide +kernel
def RJ7 : String := "java/util/Arrays"
def TJ7 : u_T := fun k => match k with
  | _ => ("", "", "", false)
def tyJ7 : Nat → FieldType := fun k => match k with
  | _ => .int
abbrev wsJ70 : List Cond := u_ws RJ7 TJ7 0
theorem nmJ7 : ∀ a, a < 0 → ∀ b, b < 0 → a ≠ b → (TJ7 a).2.1 ≠ (TJ7 b).2.1 := by decide +kernel
theorem tyJ7_ok : ∀ k, k < 0 → parseFieldDescriptor (TJ7 k).2.2.1 = some (tyJ7 k) := by decide +kernel
abbrev cJ7_fill_d0a16 : ByteArray := prog_11_method_101_code
def yJ7_fill_d0a16 : MethodName := ⟨RJ7, "fill", "([JJ)V"⟩
abbrev cJ7_fill_53178 : ByteArray := prog_11_method_103_code
def yJ7_fill_53178 : MethodName := ⟨RJ7, "fill", "([II)V"⟩
def RL : String := "OnceCallsLaw"
abbrev cL_cell : ByteArray := method_2_code
def yL_cell : MethodName := ⟨RL, "cell", "([II)I"⟩
abbrev cL_law : ByteArray := code
def yL_law : MethodName := ⟨RL, "law", "([I)Z"⟩
def wsL_law_r1 : List Cond := [Cond.classLink RL 7 RX5, Cond.instantiable RX5 9, Cond.initialized RX5, Cond.classLink RL 18 RX6, Cond.instantiable RX6 53, Cond.initialized RX6, Cond.constantLong RL 30 (4294967295), Cond.methodLink RL 9 yL_cell, Cond.static yL_cell, Cond.initialized RL, Cond.code yL_cell cL_cell 2 (some .int), Cond.methodLink RL 15 yX5_init, Cond.instanceMethod yX5_init, Cond.code yX5_init cX5_init 5 none, Cond.methodLink RX5 3 objectInit, Cond.instanceMethod objectInit, Cond.code objectInit ⟨#[0xb1]⟩ 1 none, Cond.fieldLink RX5 9 "OnceCalls" "lease" "I", Cond.classLink RX5 13 RX4, Cond.fieldLink RX5 15 "OnceCalls" "servers" "[LOnceCalls$Server;", Cond.instantiable RX4 6, Cond.initialized RX4, Cond.classLink RX5 22 RX1, Cond.fieldLink RX5 24 "OnceCalls" "clients" "[LOnceCalls$Client;"]
def wsL_law_r2 : List Cond := [Cond.instantiable RX1 11, Cond.initialized RX1, Cond.classLink RX5 29 RX3, Cond.instantiable RX3 2, Cond.initialized RX3, Cond.fieldLink RX5 34 "OnceCalls" "row" "LOnceCalls$Row;", Cond.methodLink RX5 19 yX4_init, Cond.instanceMethod yX4_init, Cond.code yX4_init cX4_init 6 none, Cond.methodLink RX4 3 objectInit, Cond.classLink RX4 9 RX3, Cond.fieldLink RX4 14 "OnceCalls$Server" "held" "LOnceCalls$Row;", Cond.classLink RX4 20 RX0, Cond.fieldLink RX4 22 "OnceCalls$Server" "memory" "[LOnceCalls$Bucket;", Cond.fieldLink RX4 26 "OnceCalls$Server" "kept" "[LOnceCalls$Bucket;", Cond.fieldLink RX4 29 "OnceCalls$Server" "up" "Z", Cond.fieldLink RX4 33 "OnceCalls$Server" "clean" "Z", Cond.fieldLink RX4 36 "OnceCalls$Server" "index" "I", Cond.methodLink RX4 40 Lib.Math.max.name, Cond.static Lib.Math.max.name, Cond.initialized "java/lang/Math", Cond.code Lib.Math.max.name Lib.Math.max.code 2 (some .int), Cond.instantiable RX0 11, Cond.initialized RX0]
def wsL_law_r3 : List Cond := [Cond.fieldLink RX4 47 "OnceCalls$Bucket" "hint" "I", Cond.fieldLink RX4 50 "OnceCalls$Bucket" "status" "I", Cond.fieldLink RX4 53 "OnceCalls$Bucket" "version" "I", Cond.methodLink RX4 11 yX3_init, Cond.instanceMethod yX3_init, Cond.code yX3_init cX3_init 2 none, Cond.methodLink RX3 1 objectInit, Cond.methodLink RX3 7 Lib.Math.max.name, Cond.classLink RX3 13 RX2, Cond.fieldLink RX3 15 "OnceCalls$Row" "letters" "[LOnceCalls$Letter;", Cond.instanceMethod yX0_init, Cond.code yX0_init cX0_init 1 none, Cond.methodLink RX0 3 objectInit, Cond.arrayClass .long, Cond.fieldLink RX0 9 "OnceCalls$Bucket" "values" "[J", Cond.arrayClass .int, Cond.fieldLink RX0 15 "OnceCalls$Bucket" "recordClients" "[I", Cond.fieldLink RX0 19 "OnceCalls$Bucket" "recordIncarnations" "[I", Cond.fieldLink RX0 22 "OnceCalls$Bucket" "recordNumbers" "[I", Cond.fieldLink RX0 25 "OnceCalls$Bucket" "recordResults" "[J", Cond.fieldLink RX0 28 "OnceCalls$Bucket" "incarnations" "[I", Cond.fieldLink RX0 31 "OnceCalls$Bucket" "firsts" "[I", Cond.methodLink RX4 56 yX0_copyFrom, Cond.instanceMethod yX0_copyFrom]
def wsL_law_r4 : List Cond := [Cond.selects RX0 yX0_copyFrom yX0_copyFrom, Cond.code yX0_copyFrom cX0_copyFrom 2 none, Cond.fieldLink RX0 34 "OnceCalls$Bucket" "status" "I", Cond.fieldLink RX0 38 "OnceCalls$Bucket" "version" "I", Cond.fieldLink RX0 41 "OnceCalls$Bucket" "hint" "I", Cond.fieldLink RX0 44 "OnceCalls$Bucket" "records" "I", Cond.methodLink RX0 47 arraycopyName, Cond.native arraycopyName, Cond.static arraycopyName, Cond.initialized "java/lang/System", Cond.methodLink RX5 28 yX1_init, Cond.instanceMethod yX1_init, Cond.code yX1_init cX1_init 5 none, Cond.methodLink RX1 3 objectInit, Cond.fieldLink RX1 9 "OnceCalls$Client" "guesses" "[I", Cond.fieldLink RX1 15 "OnceCalls$Client" "keys" "[I", Cond.fieldLink RX1 18 "OnceCalls$Client" "acts" "[I", Cond.fieldLink RX1 21 "OnceCalls$Client" "as" "[J", Cond.fieldLink RX1 25 "OnceCalls$Client" "bs" "[J", Cond.fieldLink RX1 28 "OnceCalls$Client" "states" "[I", Cond.fieldLink RX1 31 "OnceCalls$Client" "results" "[J", Cond.fieldLink RX1 34 "OnceCalls$Client" "index" "I", Cond.methodLink RX1 38 Lib.Math.max.name, Cond.methodLink RX5 31 yX3_init]
def wsL_law_r5 : List Cond := [Cond.methodLink RL 20 yX6_init, Cond.instanceMethod yX6_init, Cond.code yX6_init cX6_init 6 none, Cond.methodLink RX6 1 objectInit, Cond.fieldLink RX6 7 "OnceCallsModel" "incarnation" "[I", Cond.fieldLink RX6 13 "OnceCallsModel" "ends" "[I", Cond.fieldLink RX6 16 "OnceCallsModel" "calls" "[I", Cond.fieldLink RX6 19 "OnceCallsModel" "guess" "[I", Cond.fieldLink RX6 22 "OnceCallsModel" "state" "[I", Cond.fieldLink RX6 25 "OnceCallsModel" "result" "[J", Cond.fieldLink RX6 29 "OnceCallsModel" "keys" "[I", Cond.fieldLink RX6 32 "OnceCallsModel" "acts" "[I", Cond.fieldLink RX6 35 "OnceCallsModel" "firstOf" "[J", Cond.fieldLink RX6 38 "OnceCallsModel" "secondOf" "[J", Cond.fieldLink RX6 41 "OnceCallsModel" "status" "[I", Cond.fieldLink RX6 44 "OnceCallsModel" "version" "[I", Cond.fieldLink RX6 47 "OnceCallsModel" "hint" "[I", Cond.fieldLink RX6 50 "OnceCallsModel" "values" "[J", Cond.fieldLink RX6 53 "OnceCallsModel" "size" "[I", Cond.fieldLink RX6 56 "OnceCallsModel" "recordClient" "[I", Cond.fieldLink RX6 59 "OnceCallsModel" "recordIncarnation" "[I", Cond.fieldLink RX6 62 "OnceCallsModel" "recordNumber" "[I", Cond.fieldLink RX6 65 "OnceCallsModel" "recordResult" "[J", Cond.fieldLink RX6 68 "OnceCallsModel" "known" "[I"]
def wsL_law_r6 : List Cond := [Cond.fieldLink RX6 71 "OnceCallsModel" "knownFirst" "[I", Cond.arrayClass .boolean, Cond.fieldLink RX6 74 "OnceCallsModel" "up" "[Z", Cond.fieldLink RX6 78 "OnceCallsModel" "dirty" "[Z", Cond.fieldLink RX6 81 "OnceCallsModel" "used" "[Z", Cond.fieldLink RX6 84 "OnceCallsModel" "kind" "[I", Cond.fieldLink RX6 87 "OnceCallsModel" "to" "[I", Cond.fieldLink RX6 90 "OnceCallsModel" "from" "[I", Cond.fieldLink RX6 93 "OnceCallsModel" "nr" "[I", Cond.fieldLink RX6 96 "OnceCallsModel" "number" "[I", Cond.fieldLink RX6 99 "OnceCallsModel" "info" "[I", Cond.fieldLink RX6 102 "OnceCallsModel" "key" "[I", Cond.fieldLink RX6 105 "OnceCallsModel" "act" "[I", Cond.fieldLink RX6 108 "OnceCallsModel" "a" "[J", Cond.fieldLink RX6 111 "OnceCallsModel" "b" "[J", Cond.fieldLink RX6 114 "OnceCallsModel" "movedValues" "[J", Cond.constant RX6 117 (56400), Cond.fieldLink RX6 118 "OnceCallsModel" "movedClient" "[I", Cond.fieldLink RX6 121 "OnceCallsModel" "movedIncarnation" "[I", Cond.fieldLink RX6 124 "OnceCallsModel" "movedNumber" "[I", Cond.fieldLink RX6 127 "OnceCallsModel" "movedResult" "[J", Cond.fieldLink RX6 130 "OnceCallsModel" "movedKnown" "[I", Cond.fieldLink RX6 133 "OnceCallsModel" "movedFirst" "[I", Cond.fieldLink RX6 136 "OnceCallsModel" "row" "[I"]
def wsL_law_r7 : List Cond := [Cond.fieldLink RX6 139 "OnceCallsModel" "held" "[I", Cond.fieldLink RX6 142 "OnceCallsModel" "heldMany" "[I", Cond.fieldLink RX6 145 "OnceCallsModel" "servers" "I", Cond.fieldLink RX6 149 "OnceCallsModel" "lease" "I", Cond.methodLink RL 21 yX5_open, Cond.instanceMethod yX5_open, Cond.selects RX5 yX5_open yX5_open, Cond.code yX5_open cX5_open 3 (some .int), Cond.fieldLink RX5 42 "OnceCalls" "incarnations" "I", Cond.fieldLink RX5 45 "OnceCalls$Client" "incarnation" "I", Cond.fieldLink RX5 48 "OnceCalls$Client" "calls" "I", Cond.fieldLink RX5 51 "OnceCalls" "time" "I", Cond.fieldLink RX5 54 "OnceCalls$Client" "leaseEnd" "I", Cond.methodLink RX5 38 yX5_clientAt, Cond.instanceMethod yX5_clientAt, Cond.selects RX5 yX5_clientAt yX5_clientAt, Cond.code yX5_clientAt cX5_clientAt 2 (some (.object "OnceCalls$Client")), Cond.methodLink RL 25 yX6_open, Cond.instanceMethod yX6_open, Cond.selects RX6 yX6_open yX6_open, Cond.code yX6_open cX6_open 2 (some .int), Cond.fieldLink RX6 176 "OnceCallsModel" "opened" "I", Cond.fieldLink RX6 156 "OnceCallsModel" "time" "I", Cond.methodLink RX6 172 yX6_isClient]
def wsL_law_r8 : List Cond := [Cond.static yX6_isClient, Cond.code yX6_isClient cX6_isClient 1 (some .boolean), Cond.methodLink RX6 152 yX6_in, Cond.static yX6_in, Cond.code yX6_in cX6_in 3 (some .boolean), Cond.methodLink RL 26 yX5_renew, Cond.instanceMethod yX5_renew, Cond.selects RX5 yX5_renew yX5_renew, Cond.code yX5_renew cX5_renew 3 (some .int), Cond.methodLink RX5 57 yX5_isLive, Cond.instanceMethod yX5_isLive, Cond.selects RX5 yX5_isLive yX5_isLive, Cond.code yX5_isLive cX5_isLive 4 (some .boolean), Cond.methodLink RL 29 yX6_renew, Cond.instanceMethod yX6_renew, Cond.selects RX6 yX6_renew yX6_renew, Cond.code yX6_renew cX6_renew 2 (some .int), Cond.methodLink RX6 179 yX6_isLive, Cond.instanceMethod yX6_isLive, Cond.selects RX6 yX6_isLive yX6_isLive, Cond.code yX6_isLive cX6_isLive 4 (some .boolean), Cond.methodLink RL 32 yX5_call, Cond.instanceMethod yX5_call, Cond.selects RX5 yX5_call yX5_call]
def wsL_law_r9 : List Cond := [Cond.code yX5_call cX5_call 10 (some .int), Cond.methodLink RX5 61 yX1_waiting, Cond.instanceMethod yX1_waiting, Cond.selects RX1 yX1_waiting yX1_waiting, Cond.code yX1_waiting cX1_waiting 3 (some .int), Cond.fieldLink RX1 44 "OnceCalls$Client" "calls" "I", Cond.methodLink RX5 65 yX1_newCall, Cond.instanceMethod yX1_newCall, Cond.selects RX1 yX1_newCall yX1_newCall, Cond.code yX1_newCall cX1_newCall 7 (some .int), Cond.methodLink RX5 69 yX5_requestOf, Cond.static yX5_requestOf, Cond.code yX5_requestOf cX5_requestOf 4 (some (.object "OnceCalls$Letter")), Cond.fieldLink RX5 250 "OnceCalls$Client" "keys" "[I", Cond.classLink RX5 89 RX2, Cond.instantiable RX2 15, Cond.initialized RX2, Cond.fieldLink RX5 225 "OnceCalls$Client" "guesses" "[I", Cond.fieldLink RX5 312 "OnceCalls$Client" "index" "I", Cond.fieldLink RX5 94 "OnceCalls$Letter" "incarnation" "I", Cond.fieldLink RX5 240 "OnceCalls$Letter" "number" "I", Cond.fieldLink RX5 98 "OnceCalls$Letter" "first" "I", Cond.fieldLink RX5 268 "OnceCalls$Letter" "key" "I", Cond.fieldLink RX5 313 "OnceCalls$Client" "acts" "[I"]
def wsL_law_r10 : List Cond := [Cond.fieldLink RX5 316 "OnceCalls$Letter" "act" "I", Cond.fieldLink RX5 319 "OnceCalls$Client" "as" "[J", Cond.fieldLink RX5 322 "OnceCalls$Letter" "a" "J", Cond.fieldLink RX5 325 "OnceCalls$Client" "bs" "[J", Cond.fieldLink RX5 328 "OnceCalls$Letter" "b" "J", Cond.methodLink RX5 205 yX5_bucketOf, Cond.static yX5_bucketOf, Cond.code yX5_bucketOf cX5_bucketOf 1 (some .int), Cond.methodLink RX5 91 yX2_init, Cond.instanceMethod yX2_init, Cond.code yX2_init cX2_init 4 none, Cond.methodLink RX2 3 objectInit, Cond.fieldLink RX2 9 "OnceCalls$Letter" "kind" "I", Cond.fieldLink RX2 15 "OnceCalls$Letter" "to" "I", Cond.fieldLink RX2 18 "OnceCalls$Letter" "from" "I", Cond.methodLink RX5 95 yX1_first, Cond.instanceMethod yX1_first, Cond.selects RX1 yX1_first yX1_first, Cond.code yX1_first cX1_first 2 (some .int), Cond.methodLink RX5 73 yX5_send, Cond.instanceMethod yX5_send, Cond.selects RX5 yX5_send yX5_send, Cond.code yX5_send cX5_send 2 none, Cond.fieldLink RX5 120 "OnceCalls" "lost" "I"]
def wsL_law_r11 : List Cond := [Cond.methodLink RX5 127 yX3_append, Cond.instanceMethod yX3_append, Cond.selects RX3 yX3_append yX3_append, Cond.code yX3_append cX3_append 2 (some .boolean), Cond.fieldLink RX3 21 "OnceCalls$Row" "size" "I", Cond.methodLink RL 36 yX6_call, Cond.instanceMethod yX6_call, Cond.selects RX6 yX6_call yX6_call, Cond.code yX6_call cX6_call 9 (some .int), Cond.methodLink RX6 190 yX6_waiting, Cond.instanceMethod yX6_waiting, Cond.selects RX6 yX6_waiting yX6_waiting, Cond.code yX6_waiting cX6_waiting 4 (some .int), Cond.methodLink RX6 193 yX6_request, Cond.instanceMethod yX6_request, Cond.selects RX6 yX6_request yX6_request, Cond.code yX6_request cX6_request 5 none, Cond.methodLink RX6 182 yX6_letter, Cond.instanceMethod yX6_letter, Cond.selects RX6 yX6_letter yX6_letter, Cond.code yX6_letter cX6_letter 5 (some .int), Cond.fieldLink RX6 159 "OnceCallsModel" "free" "I", Cond.methodLink RX6 186 yX6_first, Cond.instanceMethod yX6_first]
def wsL_law_r12 : List Cond := [Cond.selects RX6 yX6_first yX6_first, Cond.code yX6_first cX6_first 3 (some .int), Cond.methodLink RX6 168 yX6_go, Cond.instanceMethod yX6_go, Cond.selects RX6 yX6_go yX6_go, Cond.code yX6_go cX6_go 2 none, Cond.fieldLink RX6 162 "OnceCallsModel" "letters" "I", Cond.fieldLink RX6 165 "OnceCallsModel" "lost" "I", Cond.methodLink RL 37 yX5_retry, Cond.instanceMethod yX5_retry, Cond.selects RX5 yX5_retry yX5_retry, Cond.code yX5_retry cX5_retry 4 (some .int), Cond.fieldLink RX5 81 "OnceCalls$Client" "states" "[I", Cond.methodLink RX5 77 yX1_hasCall, Cond.instanceMethod yX1_hasCall, Cond.selects RX1 yX1_hasCall yX1_hasCall, Cond.code yX1_hasCall cX1_hasCall 2 (some .boolean), Cond.methodLink RL 41 yX6_retry, Cond.instanceMethod yX6_retry, Cond.selects RX6 yX6_retry yX6_retry, Cond.code yX6_retry cX6_retry 3 (some .int), Cond.methodLink RX6 197 yX6_isCall, Cond.instanceMethod yX6_isCall, Cond.selects RX6 yX6_isCall yX6_isCall]
def wsL_law_r13 : List Cond := [Cond.code yX6_isCall cX6_isCall 3 (some .boolean), Cond.methodLink RL 42 yX5_ack, Cond.instanceMethod yX5_ack, Cond.selects RX5 yX5_ack yX5_ack, Cond.code yX5_ack cX5_ack 5 (some .int), Cond.methodLink RX5 85 yX5_serverAt, Cond.instanceMethod yX5_serverAt, Cond.selects RX5 yX5_serverAt yX5_serverAt, Cond.code yX5_serverAt cX5_serverAt 2 (some (.object "OnceCalls$Server")), Cond.methodLink RL 45 yX6_ack, Cond.instanceMethod yX6_ack, Cond.selects RX6 yX6_ack yX6_ack, Cond.code yX6_ack cX6_ack 5 (some .int), Cond.methodLink RX6 201 yX6_isServer, Cond.instanceMethod yX6_isServer, Cond.selects RX6 yX6_isServer yX6_isServer, Cond.code yX6_isServer cX6_isServer 2 (some .boolean), Cond.methodLink RL 46 yX5_deliver, Cond.instanceMethod yX5_deliver, Cond.selects RX5 yX5_deliver yX5_deliver, Cond.code yX5_deliver cX5_deliver 4 (some .int), Cond.fieldLink RX5 107 "OnceCalls$Letter" "kind" "I", Cond.fieldLink RX5 113 "OnceCalls$Letter" "to" "I", Cond.fieldLink RX5 116 "OnceCalls$Server" "up" "Z"]
def wsL_law_r14 : List Cond := [Cond.methodLink RX5 100 yX3_at, Cond.instanceMethod yX3_at, Cond.selects RX3 yX3_at yX3_at, Cond.code yX3_at cX3_at 2 (some (.object "OnceCalls$Letter")), Cond.methodLink RX5 104 yX3_removeAt, Cond.instanceMethod yX3_removeAt, Cond.selects RX3 yX3_removeAt yX3_removeAt, Cond.code yX3_removeAt cX3_removeAt 3 none, Cond.methodLink RX5 110 yX5_takeAnswer, Cond.instanceMethod yX5_takeAnswer, Cond.selects RX5 yX5_takeAnswer yX5_takeAnswer, Cond.code yX5_takeAnswer cX5_takeAnswer 3 none, Cond.fieldLink RX5 243 "OnceCalls$Letter" "code" "I", Cond.fieldLink RX5 228 "OnceCalls$Client" "results" "[J", Cond.fieldLink RX5 246 "OnceCalls$Letter" "result" "J", Cond.fieldLink RX5 237 "OnceCalls" "done" "I", Cond.methodLink RX5 253 yX1_refuseWaiting, Cond.instanceMethod yX1_refuseWaiting, Cond.selects RX1 yX1_refuseWaiting yX1_refuseWaiting, Cond.code yX1_refuseWaiting cX1_refuseWaiting 2 none, Cond.methodLink RX5 123 yX5_takeAtServer, Cond.instanceMethod yX5_takeAtServer, Cond.selects RX5 yX5_takeAtServer yX5_takeAtServer, Cond.code yX5_takeAtServer cX5_takeAtServer 3 none]
def wsL_law_r15 : List Cond := [Cond.methodLink RX5 256 yX5_takeRequest, Cond.instanceMethod yX5_takeRequest, Cond.selects RX5 yX5_takeRequest yX5_takeRequest, Cond.code yX5_takeRequest cX5_takeRequest 4 none, Cond.fieldLink RX5 271 "OnceCalls$Letter" "from" "I", Cond.fieldLink RX5 155 "OnceCalls$Bucket" "status" "I", Cond.fieldLink RX5 158 "OnceCalls$Bucket" "hint" "I", Cond.methodLink RX5 146 yX4_bucketAt, Cond.instanceMethod yX4_bucketAt, Cond.selects RX4 yX4_bucketAt yX4_bucketAt, Cond.code yX4_bucketAt cX4_bucketAt 2 (some (.object "OnceCalls$Bucket")), Cond.methodLink RX5 274 yX5_answer, Cond.instanceMethod yX5_answer, Cond.selects RX5 yX5_answer yX5_answer, Cond.code yX5_answer cX5_answer 7 none, Cond.fieldLink RX5 303 "OnceCalls$Server" "index" "I", Cond.methodLink RX5 180 yX5_sendFrom, Cond.instanceMethod yX5_sendFrom, Cond.selects RX5 yX5_sendFrom yX5_sendFrom, Cond.code yX5_sendFrom cX5_sendFrom 4 none, Cond.fieldLink RX5 161 "OnceCalls$Server" "clean" "Z", Cond.fieldLink RX5 134 "OnceCalls$Server" "held" "LOnceCalls$Row;", Cond.methodLink RX5 278 yX5_takeOwnRequest, Cond.instanceMethod yX5_takeOwnRequest]
def wsL_law_r16 : List Cond := [Cond.selects RX5 yX5_takeOwnRequest yX5_takeOwnRequest, Cond.code yX5_takeOwnRequest cX5_takeOwnRequest 7 none, Cond.fieldLink RX5 292 "OnceCalls$Bucket" "recordResults" "[J", Cond.fieldLink RX5 202 "OnceCalls$Bucket" "records" "I", Cond.fieldLink RX5 234 "OnceCalls" "effects" "I", Cond.methodLink RX5 282 yX0_know, Cond.instanceMethod yX0_know, Cond.selects RX0 yX0_know yX0_know, Cond.code yX0_know cX0_know 3 (some .boolean), Cond.fieldLink RX0 62 "OnceCalls$Letter" "from" "I", Cond.fieldLink RX0 67 "OnceCalls$Letter" "incarnation" "I", Cond.constant RX0 72 (2147483647), Cond.fieldLink RX0 77 "OnceCalls$Letter" "first" "I", Cond.methodLink RX0 73 yX0_removeRecordsBelow, Cond.instanceMethod yX0_removeRecordsBelow, Cond.selects RX0 yX0_removeRecordsBelow yX0_removeRecordsBelow, Cond.code yX0_removeRecordsBelow cX0_removeRecordsBelow 4 none, Cond.methodLink RX0 80 yX0_removeRecord, Cond.instanceMethod yX0_removeRecord, Cond.selects RX0 yX0_removeRecord yX0_removeRecord, Cond.code yX0_removeRecord cX0_removeRecord 3 none, Cond.methodLink RX5 285 yX0_find, Cond.instanceMethod yX0_find, Cond.selects RX0 yX0_find yX0_find]
def wsL_law_r17 : List Cond := [Cond.code yX0_find cX0_find 3 (some .int), Cond.fieldLink RX0 84 "OnceCalls$Letter" "number" "I", Cond.methodLink RX5 289 yX0_firstOf, Cond.instanceMethod yX0_firstOf, Cond.selects RX0 yX0_firstOf yX0_firstOf, Cond.code yX0_firstOf cX0_firstOf 2 (some .int), Cond.methodLink RX5 295 yX0_doAct, Cond.instanceMethod yX0_doAct, Cond.selects RX0 yX0_doAct yX0_doAct, Cond.code yX0_doAct cX0_doAct 5 (some .long), Cond.fieldLink RX0 87 "OnceCalls$Letter" "key" "I", Cond.fieldLink RX0 94 "OnceCalls$Letter" "act" "I", Cond.fieldLink RX0 97 "OnceCalls$Letter" "a" "J", Cond.fieldLink RX0 101 "OnceCalls$Letter" "b" "J", Cond.static yX5_placeOf, Cond.code yX5_placeOf cX5_placeOf 1 (some .int), Cond.methodLink RX5 299 yX0_addRecord, Cond.instanceMethod yX0_addRecord, Cond.selects RX0 yX0_addRecord yX0_addRecord, Cond.code yX0_addRecord cX0_addRecord 4 none, Cond.methodLink RX5 259 yX5_takeMove, Cond.instanceMethod yX5_takeMove, Cond.selects RX5 yX5_takeMove yX5_takeMove, Cond.code yX5_takeMove cX5_takeMove 5 none]
def wsL_law_r18 : List Cond := [Cond.fieldLink RX5 164 "OnceCalls$Letter" "bucket" "I", Cond.fieldLink RX5 172 "OnceCalls$Letter" "load" "LOnceCalls$Bucket;", Cond.fieldLink RX5 170 "OnceCalls$Letter" "version" "I", Cond.fieldLink RX5 167 "OnceCalls$Bucket" "version" "I", Cond.methodLink RX5 176 yX0_copyFrom, Cond.methodLink RX5 262 yX5_takeTaken, Cond.instanceMethod yX5_takeTaken, Cond.selects RX5 yX5_takeTaken yX5_takeTaken, Cond.code yX5_takeTaken cX5_takeTaken 4 none, Cond.methodLink RX5 306 yX0_empty, Cond.instanceMethod yX0_empty, Cond.selects RX0 yX0_empty yX0_empty, Cond.code yX0_empty cX0_empty 1 none, Cond.methodLink RX0 53 yJ7_fill_d0a16, Cond.static yJ7_fill_d0a16, Cond.initialized RJ7, Cond.code yJ7_fill_d0a16 cJ7_fill_d0a16 5 none, Cond.methodLink RX0 59 yJ7_fill_53178, Cond.static yJ7_fill_53178, Cond.code yJ7_fill_53178 cJ7_fill_53178 4 none, Cond.methodLink RX5 265 yX5_takeAck, Cond.instanceMethod yX5_takeAck, Cond.selects RX5 yX5_takeAck yX5_takeAck, Cond.code yX5_takeAck cX5_takeAck 5 none]
def wsL_law_r19 : List Cond := [Cond.methodLink RL 49 yX6_deliver, Cond.instanceMethod yX6_deliver, Cond.selects RX6 yX6_deliver yX6_deliver, Cond.code yX6_deliver cX6_deliver 5 (some .int), Cond.methodLink RX6 228 yX6_takeOut, Cond.instanceMethod yX6_takeOut, Cond.selects RX6 yX6_takeOut yX6_takeOut, Cond.code yX6_takeOut cX6_takeOut 4 (some .int), Cond.methodLink RX6 231 yX6_asked, Cond.instanceMethod yX6_asked, Cond.selects RX6 yX6_asked yX6_asked, Cond.code yX6_asked cX6_asked 8 none, Cond.fieldLink RX6 225 "OnceCallsModel" "effects" "I", Cond.methodLink RX6 213 yX6_answer, Cond.instanceMethod yX6_answer, Cond.selects RX6 yX6_answer yX6_answer, Cond.code yX6_answer cX6_answer 7 none, Cond.methodLink RX6 210 yX6_sendFrom, Cond.instanceMethod yX6_sendFrom, Cond.selects RX6 yX6_sendFrom yX6_sendFrom, Cond.code yX6_sendFrom cX6_sendFrom 3 none, Cond.methodLink RX6 217 yX6_know, Cond.instanceMethod yX6_know, Cond.selects RX6 yX6_know yX6_know]
def wsL_law_r20 : List Cond := [Cond.code yX6_know cX6_know 10 none, Cond.methodLink RX6 207 yX6_forget, Cond.instanceMethod yX6_forget, Cond.selects RX6 yX6_forget yX6_forget, Cond.code yX6_forget cX6_forget 5 none, Cond.methodLink RX6 221 yX6_effect, Cond.instanceMethod yX6_effect, Cond.selects RX6 yX6_effect yX6_effect, Cond.code yX6_effect cX6_effect 5 (some .long), Cond.methodLink RX6 234 yX6_answered, Cond.instanceMethod yX6_answered, Cond.selects RX6 yX6_answered yX6_answered, Cond.code yX6_answered cX6_answered 5 none, Cond.fieldLink RX6 204 "OnceCallsModel" "done" "I", Cond.methodLink RX6 237 yX6_moved, Cond.instanceMethod yX6_moved, Cond.selects RX6 yX6_moved yX6_moved, Cond.code yX6_moved cX6_moved 6 none, Cond.methodLink RX6 240 yX6_taken, Cond.instanceMethod yX6_taken, Cond.selects RX6 yX6_taken yX6_taken, Cond.code yX6_taken cX6_taken 4 none, Cond.methodLink RL 50 yX5_drop, Cond.instanceMethod yX5_drop]
def wsL_law_r21 : List Cond := [Cond.selects RX5 yX5_drop yX5_drop, Cond.code yX5_drop cX5_drop 3 (some .int), Cond.methodLink RL 53 yX6_drop, Cond.instanceMethod yX6_drop, Cond.selects RX6 yX6_drop yX6_drop, Cond.code yX6_drop cX6_drop 3 (some .int), Cond.methodLink RL 54 yX5_twin, Cond.instanceMethod yX5_twin, Cond.selects RX5 yX5_twin yX5_twin, Cond.code yX5_twin cX5_twin 3 (some .int), Cond.methodLink RL 57 yX6_twin, Cond.instanceMethod yX6_twin, Cond.selects RX6 yX6_twin yX6_twin, Cond.code yX6_twin cX6_twin 5 (some .int), Cond.methodLink RL 58 yX5_sync, Cond.instanceMethod yX5_sync, Cond.selects RX5 yX5_sync yX5_sync, Cond.code yX5_sync cX5_sync 5 (some .int), Cond.fieldLink RX5 137 "OnceCalls$Row" "size" "I", Cond.methodLink RX5 131 yX4_keep, Cond.instanceMethod yX4_keep, Cond.selects RX4 yX4_keep yX4_keep, Cond.code yX4_keep cX4_keep 2 none, Cond.methodLink RX5 140 yX3_clear]
def wsL_law_r22 : List Cond := [Cond.instanceMethod yX3_clear, Cond.selects RX3 yX3_clear yX3_clear, Cond.code yX3_clear cX3_clear 2 none, Cond.methodLink RL 61 yX6_sync, Cond.instanceMethod yX6_sync, Cond.selects RX6 yX6_sync yX6_sync, Cond.code yX6_sync cX6_sync 4 (some .int), Cond.methodLink RX6 243 yX6_copy, Cond.instanceMethod yX6_copy, Cond.selects RX6 yX6_copy yX6_copy, Cond.code yX6_copy cX6_copy 7 none, Cond.methodLink RL 62 yX5_crash, Cond.instanceMethod yX5_crash, Cond.selects RX5 yX5_crash yX5_crash, Cond.code yX5_crash cX5_crash 4 (some .int), Cond.methodLink RX5 143 yX4_restore, Cond.instanceMethod yX4_restore, Cond.selects RX4 yX4_restore yX4_restore, Cond.code yX4_restore cX4_restore 2 none, Cond.methodLink RL 65 yX6_crash, Cond.instanceMethod yX6_crash, Cond.selects RX6 yX6_crash yX6_crash, Cond.code yX6_crash cX6_crash 4 (some .int), Cond.methodLink RL 66 yX5_start]
def wsL_law_r23 : List Cond := [Cond.instanceMethod yX5_start, Cond.selects RX5 yX5_start yX5_start, Cond.code yX5_start cX5_start 3 (some .int), Cond.methodLink RL 69 yX6_start, Cond.instanceMethod yX6_start, Cond.selects RX6 yX6_start yX6_start, Cond.code yX6_start cX6_start 2 (some .int), Cond.methodLink RL 70 yX5_move, Cond.instanceMethod yX5_move, Cond.selects RX5 yX5_move yX5_move, Cond.code yX5_move cX5_move 7 (some .int), Cond.classLink RX5 151 RX0, Cond.methodLink RX5 150 yX0_canLeaveFor, Cond.instanceMethod yX0_canLeaveFor, Cond.selects RX0 yX0_canLeaveFor yX0_canLeaveFor, Cond.code yX0_canLeaveFor cX0_canLeaveFor 2 (some .boolean), Cond.methodLink RL 74 yX6_move, Cond.instanceMethod yX6_move, Cond.selects RX6 yX6_move yX6_move, Cond.code yX6_move cX6_move 7 (some .int), Cond.methodLink RL 75 yX5_collect, Cond.instanceMethod yX5_collect, Cond.selects RX5 yX5_collect yX5_collect, Cond.code yX5_collect cX5_collect 6 (some .int)]
def wsL_law_r24 : List Cond := [Cond.methodLink RX5 183 yX5_removeDeadRecords, Cond.instanceMethod yX5_removeDeadRecords, Cond.selects RX5 yX5_removeDeadRecords yX5_removeDeadRecords, Cond.code yX5_removeDeadRecords cX5_removeDeadRecords 4 (some .int), Cond.fieldLink RX5 216 "OnceCalls$Bucket" "recordClients" "[I", Cond.fieldLink RX5 219 "OnceCalls$Bucket" "recordIncarnations" "[I", Cond.methodLink RX5 309 yX0_removeRecord, Cond.methodLink RL 78 yX6_collect, Cond.instanceMethod yX6_collect, Cond.selects RX6 yX6_collect yX6_collect, Cond.code yX6_collect cX6_collect 6 (some .int), Cond.methodLink RL 79 yX5_ticks, Cond.instanceMethod yX5_ticks, Cond.selects RX5 yX5_ticks yX5_ticks, Cond.code yX5_ticks cX5_ticks 2 (some .int), Cond.methodLink RL 82 yX6_ticks, Cond.instanceMethod yX6_ticks, Cond.selects RX6 yX6_ticks yX6_ticks, Cond.code yX6_ticks cX6_ticks 2 (some .int), Cond.methodLink RL 83 yX5_server, Cond.instanceMethod yX5_server, Cond.selects RX5 yX5_server yX5_server, Cond.code yX5_server cX5_server 4 (some .int), Cond.methodLink RX5 187 yX5_oneIf]
def wsL_law_r25 : List Cond := [Cond.static yX5_oneIf, Cond.code yX5_oneIf cX5_oneIf 1 (some .int), Cond.methodLink RX5 191 yX4_recordsInAll, Cond.instanceMethod yX4_recordsInAll, Cond.selects RX4 yX4_recordsInAll yX4_recordsInAll, Cond.code yX4_recordsInAll cX4_recordsInAll 3 (some .int), Cond.fieldLink RX4 60 "OnceCalls$Bucket" "records" "I", Cond.methodLink RL 86 yX6_server, Cond.instanceMethod yX6_server, Cond.selects RX6 yX6_server yX6_server, Cond.code yX6_server cX6_server 5 (some .int), Cond.methodLink RL 87 yX5_bucket, Cond.instanceMethod yX5_bucket, Cond.selects RX5 yX5_bucket yX5_bucket, Cond.code yX5_bucket cX5_bucket 5 (some .int), Cond.fieldLink RX5 197 "OnceCalls$Bucket" "incarnations" "[I", Cond.fieldLink RX5 199 "OnceCalls$Bucket" "firsts" "[I", Cond.methodLink RX5 194 yX5_bucketAt, Cond.instanceMethod yX5_bucketAt, Cond.selects RX5 yX5_bucketAt yX5_bucketAt, Cond.code yX5_bucketAt cX5_bucketAt 4 (some (.object "OnceCalls$Bucket")), Cond.methodLink RL 90 yX6_bucket, Cond.instanceMethod yX6_bucket, Cond.selects RX6 yX6_bucket yX6_bucket]
def wsL_law_r26 : List Cond := [Cond.code yX6_bucket cX6_bucket 5 (some .int), Cond.methodLink RX6 246 yX6_store, Cond.instanceMethod yX6_store, Cond.selects RX6 yX6_store yX6_store, Cond.code yX6_store cX6_store 2 (some .int), Cond.methodLink RL 91 yX5_value, Cond.instanceMethod yX5_value, Cond.selects RX5 yX5_value yX5_value, Cond.code yX5_value cX5_value 4 (some .long), Cond.fieldLink RX5 209 "OnceCalls$Bucket" "values" "[J", Cond.methodLink RX5 213 yX5_placeOf, Cond.methodLink RL 95 yX6_value, Cond.instanceMethod yX6_value, Cond.selects RX6 yX6_value yX6_value, Cond.code yX6_value cX6_value 3 (some .long), Cond.methodLink RL 96 yX5_record, Cond.instanceMethod yX5_record, Cond.selects RX5 yX5_record yX5_record, Cond.code yX5_record cX5_record 6 (some .int), Cond.fieldLink RX5 222 "OnceCalls$Bucket" "recordNumbers" "[I", Cond.methodLink RL 100 yX6_record, Cond.instanceMethod yX6_record, Cond.selects RX6 yX6_record yX6_record, Cond.code yX6_record cX6_record 7 (some .int)]
def wsL_law_r27 : List Cond := [Cond.methodLink RL 101 yX5_client, Cond.instanceMethod yX5_client, Cond.selects RX5 yX5_client yX5_client, Cond.code yX5_client cX5_client 4 (some .int), Cond.methodLink RL 104 yX6_client, Cond.instanceMethod yX6_client, Cond.selects RX6 yX6_client yX6_client, Cond.code yX6_client cX6_client 3 (some .int), Cond.methodLink RL 105 yX5_state, Cond.instanceMethod yX5_state, Cond.selects RX5 yX5_state yX5_state, Cond.code yX5_state cX5_state 4 (some .int), Cond.methodLink RL 108 yX6_state, Cond.instanceMethod yX6_state, Cond.selects RX6 yX6_state yX6_state, Cond.code yX6_state cX6_state 3 (some .int), Cond.methodLink RL 109 yX5_result, Cond.instanceMethod yX5_result, Cond.selects RX5 yX5_result yX5_result, Cond.code yX5_result cX5_result 4 (some .long), Cond.methodLink RL 112 yX6_result, Cond.instanceMethod yX6_result, Cond.selects RX6 yX6_result yX6_result, Cond.code yX6_result cX6_result 3 (some .long)]
def wsL_law_r28 : List Cond := [Cond.methodLink RL 113 yX5_letter, Cond.instanceMethod yX5_letter, Cond.selects RX5 yX5_letter yX5_letter, Cond.code yX5_letter cX5_letter 4 (some .int), Cond.methodLink RX5 231 yX2_part, Cond.instanceMethod yX2_part, Cond.selects RX2 yX2_part yX2_part, Cond.code yX2_part cX2_part 2 (some .int), Cond.fieldLink RX2 25 "OnceCalls$Letter" "version" "I", Cond.fieldLink RX2 28 "OnceCalls$Letter" "incarnation" "I", Cond.methodLink RX2 21 yX2_isBetweenServers, Cond.instanceMethod yX2_isBetweenServers, Cond.selects RX2 yX2_isBetweenServers yX2_isBetweenServers, Cond.code yX2_isBetweenServers cX2_isBetweenServers 1 (some .boolean), Cond.methodLink RX2 31 yX2_fourthPart, Cond.instanceMethod yX2_fourthPart, Cond.selects RX2 yX2_fourthPart yX2_fourthPart, Cond.code yX2_fourthPart cX2_fourthPart 1 (some .int), Cond.fieldLink RX2 38 "OnceCalls$Letter" "bucket" "I", Cond.fieldLink RX2 41 "OnceCalls$Letter" "first" "I", Cond.fieldLink RX2 44 "OnceCalls$Letter" "number" "I", Cond.methodLink RX2 35 yX2_fifthPart, Cond.instanceMethod yX2_fifthPart, Cond.selects RX2 yX2_fifthPart yX2_fifthPart]
def wsL_law_r29 : List Cond := [Cond.code yX2_fifthPart cX2_fifthPart 1 (some .int), Cond.fieldLink RX2 47 "OnceCalls$Letter" "code" "I", Cond.fieldLink RX2 50 "OnceCalls$Letter" "load" "LOnceCalls$Bucket;", Cond.fieldLink RX2 54 "OnceCalls$Bucket" "records" "I", Cond.methodLink RL 116 yX6_letter_, Cond.instanceMethod yX6_letter_, Cond.selects RX6 yX6_letter_ yX6_letter_, Cond.code yX6_letter_ cX6_letter_ 5 (some .int), Cond.methodLink RL 117 yX5_count, Cond.instanceMethod yX5_count, Cond.selects RX5 yX5_count yX5_count, Cond.code yX5_count cX5_count 2 (some .int), Cond.methodLink RL 120 yX6_count, Cond.instanceMethod yX6_count, Cond.selects RX6 yX6_count yX6_count, Cond.code yX6_count cX6_count 2 (some .int)]
def wsL_law : List Cond := (wsL_law_r1 ++ (wsL_law_r2 ++ (wsL_law_r3 ++ (wsL_law_r4 ++ (wsL_law_r5 ++ (wsL_law_r6 ++ (wsL_law_r7 ++ (wsL_law_r8 ++ (wsL_law_r9 ++ (wsL_law_r10 ++ (wsL_law_r11 ++ (wsL_law_r12 ++ (wsL_law_r13 ++ (wsL_law_r14 ++ (wsL_law_r15 ++ (wsL_law_r16 ++ (wsL_law_r17 ++ (wsL_law_r18 ++ (wsL_law_r19 ++ (wsL_law_r20 ++ (wsL_law_r21 ++ (wsL_law_r22 ++ (wsL_law_r23 ++ (wsL_law_r24 ++ (wsL_law_r25 ++ (wsL_law_r26 ++ (wsL_law_r27 ++ (wsL_law_r28 ++ wsL_law_r29)))))))))))))))))))))))))))) ++ wsX50 ++ wsX60 ++ wsX40 ++ wsX10 ++ wsX30 ++ wsX00 ++ wsX20 ++ ([] : List Cond)
theorem inlX0 : ∀ w ∈ wsX00, w ∈ wsL_law := fun _ h => List.mem_append_left _ (List.mem_append_left _ (List.mem_append_right _ h))
theorem inlX1 : ∀ w ∈ wsX10, w ∈ wsL_law := fun _ h => List.mem_append_left _ (List.mem_append_left _ (List.mem_append_left _ (List.mem_append_left _ (List.mem_append_right _ h))))
theorem inlX2 : ∀ w ∈ wsX20, w ∈ wsL_law := fun _ h => List.mem_append_left _ (List.mem_append_right _ h)
theorem inlX3 : ∀ w ∈ wsX30, w ∈ wsL_law := fun _ h => List.mem_append_left _ (List.mem_append_left _ (List.mem_append_left _ (List.mem_append_right _ h)))
theorem inlX4 : ∀ w ∈ wsX40, w ∈ wsL_law := fun _ h => List.mem_append_left _ (List.mem_append_left _ (List.mem_append_left _ (List.mem_append_left _ (List.mem_append_left _ (List.mem_append_right _ h)))))
theorem inlX5 : ∀ w ∈ wsX50, w ∈ wsL_law := fun _ h => List.mem_append_left _ (List.mem_append_left _ (List.mem_append_left _ (List.mem_append_left _ (List.mem_append_left _ (List.mem_append_left _ (List.mem_append_left _ (List.mem_append_right _ h)))))))
theorem inlX6 : ∀ w ∈ wsX60, w ∈ wsL_law := fun _ h => List.mem_append_left _ (List.mem_append_left _ (List.mem_append_left _ (List.mem_append_left _ (List.mem_append_left _ (List.mem_append_left _ (List.mem_append_right _ h))))))
abbrev vwCl : List vw_C := [(RX0, TX0, 11), (RX1, TX1, 11), (RX2, TX2, 15), (RX3, TX3, 2), (RX4, TX4, 6), (RX5, TX5, 9), (RX6, TX6, 53)]
end
section
theorem dX0_init_0 : decode cX0_init 0 = .ok (.aload_n 0, 1) := by decide +kernel
theorem dX0_init_1 : decode cX0_init 1 = .ok (.invokespecial 3, 3) := by decide +kernel
theorem dX0_init_4 : decode cX0_init 4 = .ok (.aload_n 0, 1) := by decide +kernel
theorem dX0_init_5 : decode cX0_init 5 = .ok (.iconst 4, 1) := by decide +kernel
theorem dX0_init_6 : decode cX0_init 6 = .ok (.newarray .long, 2) := by decide +kernel
theorem dX0_init_8 : decode cX0_init 8 = .ok (.putfield 9, 3) := by decide +kernel
theorem dX0_init_11 : decode cX0_init 11 = .ok (.aload_n 0, 1) := by decide +kernel
theorem dX0_init_12 : decode cX0_init 12 = .ok (.bipush 12, 2) := by decide +kernel
theorem dX0_init_14 : decode cX0_init 14 = .ok (.newarray .int, 2) := by decide +kernel
theorem dX0_init_16 : decode cX0_init 16 = .ok (.putfield 15, 3) := by decide +kernel
theorem dX0_init_19 : decode cX0_init 19 = .ok (.aload_n 0, 1) := by decide +kernel
theorem dX0_init_20 : decode cX0_init 20 = .ok (.bipush 12, 2) := by decide +kernel
theorem dX0_init_22 : decode cX0_init 22 = .ok (.newarray .int, 2) := by decide +kernel
theorem dX0_init_24 : decode cX0_init 24 = .ok (.putfield 19, 3) := by decide +kernel
theorem dX0_init_27 : decode cX0_init 27 = .ok (.aload_n 0, 1) := by decide +kernel
theorem dX0_init_28 : decode cX0_init 28 = .ok (.bipush 12, 2) := by decide +kernel
theorem dX0_init_30 : decode cX0_init 30 = .ok (.newarray .int, 2) := by decide +kernel
theorem dX0_init_32 : decode cX0_init 32 = .ok (.putfield 22, 3) := by decide +kernel
theorem dX0_init_35 : decode cX0_init 35 = .ok (.aload_n 0, 1) := by decide +kernel
theorem dX0_init_36 : decode cX0_init 36 = .ok (.bipush 12, 2) := by decide +kernel
theorem dX0_init_38 : decode cX0_init 38 = .ok (.newarray .long, 2) := by decide +kernel
theorem dX0_init_40 : decode cX0_init 40 = .ok (.putfield 25, 3) := by decide +kernel
theorem dX0_init_43 : decode cX0_init 43 = .ok (.aload_n 0, 1) := by decide +kernel
theorem dX0_init_44 : decode cX0_init 44 = .ok (.bipush 6, 2) := by decide +kernel
theorem dX0_init_46 : decode cX0_init 46 = .ok (.newarray .int, 2) := by decide +kernel
theorem dX0_init_48 : decode cX0_init 48 = .ok (.putfield 28, 3) := by decide +kernel
theorem dX0_init_51 : decode cX0_init 51 = .ok (.aload_n 0, 1) := by decide +kernel
theorem dX0_init_52 : decode cX0_init 52 = .ok (.bipush 6, 2) := by decide +kernel
theorem dX0_init_54 : decode cX0_init 54 = .ok (.newarray .int, 2) := by decide +kernel
theorem dX0_init_56 : decode cX0_init 56 = .ok (.putfield 31, 3) := by decide +kernel
theorem dX0_init_59 : decode cX0_init 59 = .ok (.return_, 1) := by decide +kernel
theorem dX0_copyFrom_0 : decode cX0_copyFrom 0 = .ok (.aload_n 0, 1) := by decide +kernel
theorem dX0_copyFrom_1 : decode cX0_copyFrom 1 = .ok (.aload_n 1, 1) := by decide +kernel
theorem dX0_copyFrom_2 : decode cX0_copyFrom 2 = .ok (.getfield 34, 3) := by decide +kernel
theorem dX0_copyFrom_5 : decode cX0_copyFrom 5 = .ok (.putfield 34, 3) := by decide +kernel
theorem dX0_copyFrom_8 : decode cX0_copyFrom 8 = .ok (.aload_n 0, 1) := by decide +kernel
theorem dX0_copyFrom_9 : decode cX0_copyFrom 9 = .ok (.aload_n 1, 1) := by decide +kernel
theorem dX0_copyFrom_10 : decode cX0_copyFrom 10 = .ok (.getfield 38, 3) := by decide +kernel
theorem dX0_copyFrom_13 : decode cX0_copyFrom 13 = .ok (.putfield 38, 3) := by decide +kernel
theorem dX0_copyFrom_16 : decode cX0_copyFrom 16 = .ok (.aload_n 0, 1) := by decide +kernel
theorem dX0_copyFrom_17 : decode cX0_copyFrom 17 = .ok (.aload_n 1, 1) := by decide +kernel
theorem dX0_copyFrom_18 : decode cX0_copyFrom 18 = .ok (.getfield 41, 3) := by decide +kernel
theorem dX0_copyFrom_21 : decode cX0_copyFrom 21 = .ok (.putfield 41, 3) := by decide +kernel
theorem dX0_copyFrom_24 : decode cX0_copyFrom 24 = .ok (.aload_n 0, 1) := by decide +kernel
theorem dX0_copyFrom_25 : decode cX0_copyFrom 25 = .ok (.aload_n 1, 1) := by decide +kernel
theorem dX0_copyFrom_26 : decode cX0_copyFrom 26 = .ok (.getfield 44, 3) := by decide +kernel
theorem dX0_copyFrom_29 : decode cX0_copyFrom 29 = .ok (.putfield 44, 3) := by decide +kernel
theorem dX0_copyFrom_32 : decode cX0_copyFrom 32 = .ok (.aload_n 1, 1) := by decide +kernel
theorem dX0_copyFrom_33 : decode cX0_copyFrom 33 = .ok (.getfield 9, 3) := by decide +kernel
theorem dX0_copyFrom_36 : decode cX0_copyFrom 36 = .ok (.iconst 0, 1) := by decide +kernel
theorem dX0_copyFrom_37 : decode cX0_copyFrom 37 = .ok (.aload_n 0, 1) := by decide +kernel
theorem dX0_copyFrom_38 : decode cX0_copyFrom 38 = .ok (.getfield 9, 3) := by decide +kernel
theorem dX0_copyFrom_41 : decode cX0_copyFrom 41 = .ok (.iconst 0, 1) := by decide +kernel
theorem dX0_copyFrom_42 : decode cX0_copyFrom 42 = .ok (.iconst 4, 1) := by decide +kernel
theorem dX0_copyFrom_43 : decode cX0_copyFrom 43 = .ok (.invokestatic 47, 3) := by decide +kernel
theorem dX0_copyFrom_46 : decode cX0_copyFrom 46 = .ok (.aload_n 1, 1) := by decide +kernel
theorem dX0_copyFrom_47 : decode cX0_copyFrom 47 = .ok (.getfield 15, 3) := by decide +kernel
theorem dX0_copyFrom_50 : decode cX0_copyFrom 50 = .ok (.iconst 0, 1) := by decide +kernel
theorem dX0_copyFrom_51 : decode cX0_copyFrom 51 = .ok (.aload_n 0, 1) := by decide +kernel
theorem dX0_copyFrom_52 : decode cX0_copyFrom 52 = .ok (.getfield 15, 3) := by decide +kernel
theorem dX0_copyFrom_55 : decode cX0_copyFrom 55 = .ok (.iconst 0, 1) := by decide +kernel
theorem dX0_copyFrom_56 : decode cX0_copyFrom 56 = .ok (.aload_n 0, 1) := by decide +kernel
theorem dX0_copyFrom_57 : decode cX0_copyFrom 57 = .ok (.getfield 44, 3) := by decide +kernel
theorem dX0_copyFrom_60 : decode cX0_copyFrom 60 = .ok (.invokestatic 47, 3) := by decide +kernel
theorem dX0_copyFrom_63 : decode cX0_copyFrom 63 = .ok (.aload_n 1, 1) := by decide +kernel
theorem dX0_copyFrom_64 : decode cX0_copyFrom 64 = .ok (.getfield 19, 3) := by decide +kernel
theorem dX0_copyFrom_67 : decode cX0_copyFrom 67 = .ok (.iconst 0, 1) := by decide +kernel
theorem dX0_copyFrom_68 : decode cX0_copyFrom 68 = .ok (.aload_n 0, 1) := by decide +kernel
theorem dX0_copyFrom_69 : decode cX0_copyFrom 69 = .ok (.getfield 19, 3) := by decide +kernel
theorem dX0_copyFrom_72 : decode cX0_copyFrom 72 = .ok (.iconst 0, 1) := by decide +kernel
theorem dX0_copyFrom_73 : decode cX0_copyFrom 73 = .ok (.aload_n 0, 1) := by decide +kernel
theorem dX0_copyFrom_74 : decode cX0_copyFrom 74 = .ok (.getfield 44, 3) := by decide +kernel
theorem dX0_copyFrom_77 : decode cX0_copyFrom 77 = .ok (.invokestatic 47, 3) := by decide +kernel
theorem dX0_copyFrom_80 : decode cX0_copyFrom 80 = .ok (.aload_n 1, 1) := by decide +kernel
theorem dX0_copyFrom_81 : decode cX0_copyFrom 81 = .ok (.getfield 22, 3) := by decide +kernel
theorem dX0_copyFrom_84 : decode cX0_copyFrom 84 = .ok (.iconst 0, 1) := by decide +kernel
theorem dX0_copyFrom_85 : decode cX0_copyFrom 85 = .ok (.aload_n 0, 1) := by decide +kernel
theorem dX0_copyFrom_86 : decode cX0_copyFrom 86 = .ok (.getfield 22, 3) := by decide +kernel
theorem dX0_copyFrom_89 : decode cX0_copyFrom 89 = .ok (.iconst 0, 1) := by decide +kernel
theorem dX0_copyFrom_90 : decode cX0_copyFrom 90 = .ok (.aload_n 0, 1) := by decide +kernel
theorem dX0_copyFrom_91 : decode cX0_copyFrom 91 = .ok (.getfield 44, 3) := by decide +kernel
theorem dX0_copyFrom_94 : decode cX0_copyFrom 94 = .ok (.invokestatic 47, 3) := by decide +kernel
theorem dX0_copyFrom_97 : decode cX0_copyFrom 97 = .ok (.aload_n 1, 1) := by decide +kernel
theorem dX0_copyFrom_98 : decode cX0_copyFrom 98 = .ok (.getfield 25, 3) := by decide +kernel
theorem dX0_copyFrom_101 : decode cX0_copyFrom 101 = .ok (.iconst 0, 1) := by decide +kernel
theorem dX0_copyFrom_102 : decode cX0_copyFrom 102 = .ok (.aload_n 0, 1) := by decide +kernel
theorem dX0_copyFrom_103 : decode cX0_copyFrom 103 = .ok (.getfield 25, 3) := by decide +kernel
theorem dX0_copyFrom_106 : decode cX0_copyFrom 106 = .ok (.iconst 0, 1) := by decide +kernel
theorem dX0_copyFrom_107 : decode cX0_copyFrom 107 = .ok (.aload_n 0, 1) := by decide +kernel
theorem dX0_copyFrom_108 : decode cX0_copyFrom 108 = .ok (.getfield 44, 3) := by decide +kernel
theorem dX0_copyFrom_111 : decode cX0_copyFrom 111 = .ok (.invokestatic 47, 3) := by decide +kernel
theorem dX0_copyFrom_114 : decode cX0_copyFrom 114 = .ok (.aload_n 1, 1) := by decide +kernel
theorem dX0_copyFrom_115 : decode cX0_copyFrom 115 = .ok (.getfield 28, 3) := by decide +kernel
theorem dX0_copyFrom_118 : decode cX0_copyFrom 118 = .ok (.iconst 0, 1) := by decide +kernel
theorem dX0_copyFrom_119 : decode cX0_copyFrom 119 = .ok (.aload_n 0, 1) := by decide +kernel
theorem dX0_copyFrom_120 : decode cX0_copyFrom 120 = .ok (.getfield 28, 3) := by decide +kernel
theorem dX0_copyFrom_123 : decode cX0_copyFrom 123 = .ok (.iconst 0, 1) := by decide +kernel
theorem dX0_copyFrom_124 : decode cX0_copyFrom 124 = .ok (.bipush 6, 2) := by decide +kernel
theorem dX0_copyFrom_126 : decode cX0_copyFrom 126 = .ok (.invokestatic 47, 3) := by decide +kernel
theorem dX0_copyFrom_129 : decode cX0_copyFrom 129 = .ok (.aload_n 1, 1) := by decide +kernel
theorem dX0_copyFrom_130 : decode cX0_copyFrom 130 = .ok (.getfield 31, 3) := by decide +kernel
theorem dX0_copyFrom_133 : decode cX0_copyFrom 133 = .ok (.iconst 0, 1) := by decide +kernel
theorem dX0_copyFrom_134 : decode cX0_copyFrom 134 = .ok (.aload_n 0, 1) := by decide +kernel
theorem dX0_copyFrom_135 : decode cX0_copyFrom 135 = .ok (.getfield 31, 3) := by decide +kernel
theorem dX0_copyFrom_138 : decode cX0_copyFrom 138 = .ok (.iconst 0, 1) := by decide +kernel
theorem dX0_copyFrom_139 : decode cX0_copyFrom 139 = .ok (.bipush 6, 2) := by decide +kernel
theorem dX0_copyFrom_141 : decode cX0_copyFrom 141 = .ok (.invokestatic 47, 3) := by decide +kernel
theorem dX0_copyFrom_144 : decode cX0_copyFrom 144 = .ok (.return_, 1) := by decide +kernel
theorem dX0_empty_0 : decode cX0_empty 0 = .ok (.aload_n 0, 1) := by decide +kernel
theorem dX0_empty_1 : decode cX0_empty 1 = .ok (.iconst 0, 1) := by decide +kernel
theorem dX0_empty_2 : decode cX0_empty 2 = .ok (.putfield 44, 3) := by decide +kernel
theorem dX0_empty_5 : decode cX0_empty 5 = .ok (.aload_n 0, 1) := by decide +kernel
theorem dX0_empty_6 : decode cX0_empty 6 = .ok (.getfield 9, 3) := by decide +kernel
theorem dX0_empty_9 : decode cX0_empty 9 = .ok (.lconst 0, 1) := by decide +kernel
theorem dX0_empty_10 : decode cX0_empty 10 = .ok (.invokestatic 53, 3) := by decide +kernel
theorem dX0_empty_13 : decode cX0_empty 13 = .ok (.aload_n 0, 1) := by decide +kernel
theorem dX0_empty_14 : decode cX0_empty 14 = .ok (.getfield 28, 3) := by decide +kernel
theorem dX0_empty_17 : decode cX0_empty 17 = .ok (.iconst 0, 1) := by decide +kernel
theorem dX0_empty_18 : decode cX0_empty 18 = .ok (.invokestatic 59, 3) := by decide +kernel
theorem dX0_empty_21 : decode cX0_empty 21 = .ok (.aload_n 0, 1) := by decide +kernel
theorem dX0_empty_22 : decode cX0_empty 22 = .ok (.getfield 31, 3) := by decide +kernel
theorem dX0_empty_25 : decode cX0_empty 25 = .ok (.iconst 0, 1) := by decide +kernel
theorem dX0_empty_26 : decode cX0_empty 26 = .ok (.invokestatic 59, 3) := by decide +kernel
theorem dX0_empty_29 : decode cX0_empty 29 = .ok (.return_, 1) := by decide +kernel
theorem dX0_canLeaveFor_0 : decode cX0_canLeaveFor 0 = .ok (.aload_n 0, 1) := by decide +kernel
theorem dX0_canLeaveFor_1 : decode cX0_canLeaveFor 1 = .ok (.getfield 34, 3) := by decide +kernel
theorem dX0_canLeaveFor_4 : decode cX0_canLeaveFor 4 = .ok (.iconst 1, 1) := by decide +kernel
theorem dX0_canLeaveFor_5 : decode cX0_canLeaveFor 5 = .ok (.if_icmp .eq 19, 3) := by decide +kernel
theorem dX0_canLeaveFor_8 : decode cX0_canLeaveFor 8 = .ok (.aload_n 0, 1) := by decide +kernel
theorem dX0_canLeaveFor_9 : decode cX0_canLeaveFor 9 = .ok (.getfield 34, 3) := by decide +kernel
theorem dX0_canLeaveFor_12 : decode cX0_canLeaveFor 12 = .ok (.iconst 2, 1) := by decide +kernel
theorem dX0_canLeaveFor_13 : decode cX0_canLeaveFor 13 = .ok (.if_icmp .ne 15, 3) := by decide +kernel
theorem dX0_canLeaveFor_16 : decode cX0_canLeaveFor 16 = .ok (.aload_n 0, 1) := by decide +kernel
theorem dX0_canLeaveFor_17 : decode cX0_canLeaveFor 17 = .ok (.getfield 41, 3) := by decide +kernel
theorem dX0_canLeaveFor_20 : decode cX0_canLeaveFor 20 = .ok (.iload_n 1, 1) := by decide +kernel
theorem dX0_canLeaveFor_21 : decode cX0_canLeaveFor 21 = .ok (.if_icmp .ne 7, 3) := by decide +kernel
theorem dX0_canLeaveFor_24 : decode cX0_canLeaveFor 24 = .ok (.iconst 1, 1) := by decide +kernel
theorem dX0_canLeaveFor_25 : decode cX0_canLeaveFor 25 = .ok (.goto 4, 3) := by decide +kernel
theorem dX0_canLeaveFor_28 : decode cX0_canLeaveFor 28 = .ok (.iconst 0, 1) := by decide +kernel
theorem dX0_canLeaveFor_29 : decode cX0_canLeaveFor 29 = .ok (.ireturn, 1) := by decide +kernel
theorem dX0_firstOf_0 : decode cX0_firstOf 0 = .ok (.iload_n 1, 1) := by decide +kernel
theorem dX0_firstOf_1 : decode cX0_firstOf 1 = .ok (.ifCond .lt 18, 3) := by decide +kernel
theorem dX0_firstOf_4 : decode cX0_firstOf 4 = .ok (.iload_n 1, 1) := by decide +kernel
theorem dX0_firstOf_5 : decode cX0_firstOf 5 = .ok (.bipush 6, 2) := by decide +kernel
theorem dX0_firstOf_7 : decode cX0_firstOf 7 = .ok (.if_icmp .ge 12, 3) := by decide +kernel
theorem dX0_firstOf_10 : decode cX0_firstOf 10 = .ok (.aload_n 0, 1) := by decide +kernel
theorem dX0_firstOf_11 : decode cX0_firstOf 11 = .ok (.getfield 31, 3) := by decide +kernel
theorem dX0_firstOf_14 : decode cX0_firstOf 14 = .ok (.iload_n 1, 1) := by decide +kernel
theorem dX0_firstOf_15 : decode cX0_firstOf 15 = .ok (.iaload, 1) := by decide +kernel
theorem dX0_firstOf_16 : decode cX0_firstOf 16 = .ok (.goto 4, 3) := by decide +kernel
theorem dX0_firstOf_19 : decode cX0_firstOf 19 = .ok (.iconst 0, 1) := by decide +kernel
theorem dX0_firstOf_20 : decode cX0_firstOf 20 = .ok (.ireturn, 1) := by decide +kernel
theorem dX0_know_0 : decode cX0_know 0 = .ok (.aload_n 1, 1) := by decide +kernel
theorem dX0_know_1 : decode cX0_know 1 = .ok (.getfield 62, 3) := by decide +kernel
theorem dX0_know_4 : decode cX0_know 4 = .ok (.istore_n 2, 1) := by decide +kernel
theorem dX0_know_5 : decode cX0_know 5 = .ok (.iload_n 2, 1) := by decide +kernel
theorem dX0_know_6 : decode cX0_know 6 = .ok (.ifCond .lt 9, 3) := by decide +kernel
theorem dX0_know_9 : decode cX0_know 9 = .ok (.iload_n 2, 1) := by decide +kernel
theorem dX0_know_10 : decode cX0_know 10 = .ok (.bipush 6, 2) := by decide +kernel
theorem dX0_know_12 : decode cX0_know 12 = .ok (.if_icmp .lt 5, 3) := by decide +kernel
theorem dX0_know_15 : decode cX0_know 15 = .ok (.iconst 0, 1) := by decide +kernel
theorem dX0_know_16 : decode cX0_know 16 = .ok (.ireturn, 1) := by decide +kernel
theorem dX0_know_17 : decode cX0_know 17 = .ok (.aload_n 1, 1) := by decide +kernel
theorem dX0_know_18 : decode cX0_know 18 = .ok (.getfield 67, 3) := by decide +kernel
theorem dX0_know_21 : decode cX0_know 21 = .ok (.aload_n 0, 1) := by decide +kernel
theorem dX0_know_22 : decode cX0_know 22 = .ok (.getfield 28, 3) := by decide +kernel
theorem dX0_know_25 : decode cX0_know 25 = .ok (.iload_n 2, 1) := by decide +kernel
theorem dX0_know_26 : decode cX0_know 26 = .ok (.iaload, 1) := by decide +kernel
theorem dX0_know_27 : decode cX0_know 27 = .ok (.if_icmp .le 32, 3) := by decide +kernel
theorem dX0_know_30 : decode cX0_know 30 = .ok (.aload_n 0, 1) := by decide +kernel
theorem dX0_know_31 : decode cX0_know 31 = .ok (.iload_n 2, 1) := by decide +kernel
theorem dX0_know_32 : decode cX0_know 32 = .ok (.ldc 72, 2) := by decide +kernel
theorem dX0_know_34 : decode cX0_know 34 = .ok (.invokevirtual 73, 3) := by decide +kernel
theorem dX0_know_37 : decode cX0_know 37 = .ok (.aload_n 0, 1) := by decide +kernel
theorem dX0_know_38 : decode cX0_know 38 = .ok (.getfield 28, 3) := by decide +kernel
theorem dX0_know_41 : decode cX0_know 41 = .ok (.iload_n 2, 1) := by decide +kernel
theorem dX0_know_42 : decode cX0_know 42 = .ok (.aload_n 1, 1) := by decide +kernel
theorem dX0_know_43 : decode cX0_know 43 = .ok (.getfield 67, 3) := by decide +kernel
theorem dX0_know_46 : decode cX0_know 46 = .ok (.iastore, 1) := by decide +kernel
theorem dX0_know_47 : decode cX0_know 47 = .ok (.aload_n 0, 1) := by decide +kernel
theorem dX0_know_48 : decode cX0_know 48 = .ok (.getfield 31, 3) := by decide +kernel
theorem dX0_know_51 : decode cX0_know 51 = .ok (.iload_n 2, 1) := by decide +kernel
theorem dX0_know_52 : decode cX0_know 52 = .ok (.aload_n 1, 1) := by decide +kernel
theorem dX0_know_53 : decode cX0_know 53 = .ok (.getfield 77, 3) := by decide +kernel
theorem dX0_know_56 : decode cX0_know 56 = .ok (.iastore, 1) := by decide +kernel
theorem dX0_know_57 : decode cX0_know 57 = .ok (.iconst 1, 1) := by decide +kernel
theorem dX0_know_58 : decode cX0_know 58 = .ok (.ireturn, 1) := by decide +kernel
theorem dX0_know_59 : decode cX0_know 59 = .ok (.aload_n 1, 1) := by decide +kernel
theorem dX0_know_60 : decode cX0_know 60 = .ok (.getfield 67, 3) := by decide +kernel
theorem dX0_know_63 : decode cX0_know 63 = .ok (.aload_n 0, 1) := by decide +kernel
theorem dX0_know_64 : decode cX0_know 64 = .ok (.getfield 28, 3) := by decide +kernel
theorem dX0_know_67 : decode cX0_know 67 = .ok (.iload_n 2, 1) := by decide +kernel
theorem dX0_know_68 : decode cX0_know 68 = .ok (.iaload, 1) := by decide +kernel
theorem dX0_know_69 : decode cX0_know 69 = .ok (.if_icmp .ne 37, 3) := by decide +kernel
theorem dX0_know_72 : decode cX0_know 72 = .ok (.aload_n 1, 1) := by decide +kernel
theorem dX0_know_73 : decode cX0_know 73 = .ok (.getfield 77, 3) := by decide +kernel
theorem dX0_know_76 : decode cX0_know 76 = .ok (.aload_n 0, 1) := by decide +kernel
theorem dX0_know_77 : decode cX0_know 77 = .ok (.getfield 31, 3) := by decide +kernel
theorem dX0_know_80 : decode cX0_know 80 = .ok (.iload_n 2, 1) := by decide +kernel
theorem dX0_know_81 : decode cX0_know 81 = .ok (.iaload, 1) := by decide +kernel
theorem dX0_know_82 : decode cX0_know 82 = .ok (.if_icmp .le 24, 3) := by decide +kernel
theorem dX0_know_85 : decode cX0_know 85 = .ok (.aload_n 0, 1) := by decide +kernel
theorem dX0_know_86 : decode cX0_know 86 = .ok (.iload_n 2, 1) := by decide +kernel
theorem dX0_know_87 : decode cX0_know 87 = .ok (.aload_n 1, 1) := by decide +kernel
theorem dX0_know_88 : decode cX0_know 88 = .ok (.getfield 77, 3) := by decide +kernel
theorem dX0_know_91 : decode cX0_know 91 = .ok (.invokevirtual 73, 3) := by decide +kernel
theorem dX0_know_94 : decode cX0_know 94 = .ok (.aload_n 0, 1) := by decide +kernel
theorem dX0_know_95 : decode cX0_know 95 = .ok (.getfield 31, 3) := by decide +kernel
theorem dX0_know_98 : decode cX0_know 98 = .ok (.iload_n 2, 1) := by decide +kernel
theorem dX0_know_99 : decode cX0_know 99 = .ok (.aload_n 1, 1) := by decide +kernel
theorem dX0_know_100 : decode cX0_know 100 = .ok (.getfield 77, 3) := by decide +kernel
theorem dX0_know_103 : decode cX0_know 103 = .ok (.iastore, 1) := by decide +kernel
theorem dX0_know_104 : decode cX0_know 104 = .ok (.iconst 1, 1) := by decide +kernel
theorem dX0_know_105 : decode cX0_know 105 = .ok (.ireturn, 1) := by decide +kernel
theorem dX0_know_106 : decode cX0_know 106 = .ok (.iconst 0, 1) := by decide +kernel
theorem dX0_know_107 : decode cX0_know 107 = .ok (.ireturn, 1) := by decide +kernel
theorem dX0_removeRecordsBelow_0 : decode cX0_removeRecordsBelow 0 = .ok (.aload_n 0, 1) := by decide +kernel
theorem dX0_removeRecordsBelow_1 : decode cX0_removeRecordsBelow 1 = .ok (.getfield 44, 3) := by decide +kernel
theorem dX0_removeRecordsBelow_4 : decode cX0_removeRecordsBelow 4 = .ok (.iconst 1, 1) := by decide +kernel
theorem dX0_removeRecordsBelow_5 : decode cX0_removeRecordsBelow 5 = .ok (.isub, 1) := by decide +kernel
theorem dX0_removeRecordsBelow_6 : decode cX0_removeRecordsBelow 6 = .ok (.istore_n 3, 1) := by decide +kernel
theorem dX0_removeRecordsBelow_7 : decode cX0_removeRecordsBelow 7 = .ok (.iload_n 3, 1) := by decide +kernel
theorem dX0_removeRecordsBelow_8 : decode cX0_removeRecordsBelow 8 = .ok (.ifCond .lt 34, 3) := by decide +kernel
theorem dX0_removeRecordsBelow_11 : decode cX0_removeRecordsBelow 11 = .ok (.aload_n 0, 1) := by decide +kernel
theorem dX0_removeRecordsBelow_12 : decode cX0_removeRecordsBelow 12 = .ok (.getfield 15, 3) := by decide +kernel
theorem dX0_removeRecordsBelow_15 : decode cX0_removeRecordsBelow 15 = .ok (.iload_n 3, 1) := by decide +kernel
theorem dX0_removeRecordsBelow_16 : decode cX0_removeRecordsBelow 16 = .ok (.iaload, 1) := by decide +kernel
theorem dX0_removeRecordsBelow_17 : decode cX0_removeRecordsBelow 17 = .ok (.iload_n 1, 1) := by decide +kernel
theorem dX0_removeRecordsBelow_18 : decode cX0_removeRecordsBelow 18 = .ok (.if_icmp .ne 18, 3) := by decide +kernel
theorem dX0_removeRecordsBelow_21 : decode cX0_removeRecordsBelow 21 = .ok (.aload_n 0, 1) := by decide +kernel
theorem dX0_removeRecordsBelow_22 : decode cX0_removeRecordsBelow 22 = .ok (.getfield 22, 3) := by decide +kernel
theorem dX0_removeRecordsBelow_25 : decode cX0_removeRecordsBelow 25 = .ok (.iload_n 3, 1) := by decide +kernel
theorem dX0_removeRecordsBelow_26 : decode cX0_removeRecordsBelow 26 = .ok (.iaload, 1) := by decide +kernel
theorem dX0_removeRecordsBelow_27 : decode cX0_removeRecordsBelow 27 = .ok (.iload_n 2, 1) := by decide +kernel
theorem dX0_removeRecordsBelow_28 : decode cX0_removeRecordsBelow 28 = .ok (.if_icmp .ge 8, 3) := by decide +kernel
theorem dX0_removeRecordsBelow_31 : decode cX0_removeRecordsBelow 31 = .ok (.aload_n 0, 1) := by decide +kernel
theorem dX0_removeRecordsBelow_32 : decode cX0_removeRecordsBelow 32 = .ok (.iload_n 3, 1) := by decide +kernel
theorem dX0_removeRecordsBelow_33 : decode cX0_removeRecordsBelow 33 = .ok (.invokevirtual 80, 3) := by decide +kernel
theorem dX0_removeRecordsBelow_36 : decode cX0_removeRecordsBelow 36 = .ok (.iinc 3 (-1), 3) := by decide +kernel
theorem dX0_removeRecordsBelow_39 : decode cX0_removeRecordsBelow 39 = .ok (.goto (-32), 3) := by decide +kernel
theorem dX0_removeRecordsBelow_42 : decode cX0_removeRecordsBelow 42 = .ok (.return_, 1) := by decide +kernel
theorem dX0_removeRecord_0 : decode cX0_removeRecord 0 = .ok (.iload_n 1, 1) := by decide +kernel
theorem dX0_removeRecord_1 : decode cX0_removeRecord 1 = .ok (.ifCond .lt 11, 3) := by decide +kernel
theorem dX0_removeRecord_4 : decode cX0_removeRecord 4 = .ok (.iload_n 1, 1) := by decide +kernel
theorem dX0_removeRecord_5 : decode cX0_removeRecord 5 = .ok (.aload_n 0, 1) := by decide +kernel
theorem dX0_removeRecord_6 : decode cX0_removeRecord 6 = .ok (.getfield 44, 3) := by decide +kernel
theorem dX0_removeRecord_9 : decode cX0_removeRecord 9 = .ok (.if_icmp .lt 4, 3) := by decide +kernel
theorem dX0_removeRecord_12 : decode cX0_removeRecord 12 = .ok (.return_, 1) := by decide +kernel
theorem dX0_removeRecord_13 : decode cX0_removeRecord 13 = .ok (.iload_n 1, 1) := by decide +kernel
theorem dX0_removeRecord_14 : decode cX0_removeRecord 14 = .ok (.iconst 1, 1) := by decide +kernel
theorem dX0_removeRecord_15 : decode cX0_removeRecord 15 = .ok (.iadd, 1) := by decide +kernel
theorem dX0_removeRecord_16 : decode cX0_removeRecord 16 = .ok (.istore_n 2, 1) := by decide +kernel
theorem dX0_removeRecord_17 : decode cX0_removeRecord 17 = .ok (.iload_n 2, 1) := by decide +kernel
theorem dX0_removeRecord_18 : decode cX0_removeRecord 18 = .ok (.aload_n 0, 1) := by decide +kernel
theorem dX0_removeRecord_19 : decode cX0_removeRecord 19 = .ok (.getfield 44, 3) := by decide +kernel
theorem dX0_removeRecord_22 : decode cX0_removeRecord 22 = .ok (.if_icmp .ge 65, 3) := by decide +kernel
theorem dX0_removeRecord_25 : decode cX0_removeRecord 25 = .ok (.aload_n 0, 1) := by decide +kernel
theorem dX0_removeRecord_26 : decode cX0_removeRecord 26 = .ok (.getfield 15, 3) := by decide +kernel
theorem dX0_removeRecord_29 : decode cX0_removeRecord 29 = .ok (.iload_n 2, 1) := by decide +kernel
theorem dX0_removeRecord_30 : decode cX0_removeRecord 30 = .ok (.iconst 1, 1) := by decide +kernel
theorem dX0_removeRecord_31 : decode cX0_removeRecord 31 = .ok (.isub, 1) := by decide +kernel
theorem dX0_removeRecord_32 : decode cX0_removeRecord 32 = .ok (.aload_n 0, 1) := by decide +kernel
theorem dX0_removeRecord_33 : decode cX0_removeRecord 33 = .ok (.getfield 15, 3) := by decide +kernel
theorem dX0_removeRecord_36 : decode cX0_removeRecord 36 = .ok (.iload_n 2, 1) := by decide +kernel
theorem dX0_removeRecord_37 : decode cX0_removeRecord 37 = .ok (.iaload, 1) := by decide +kernel
theorem dX0_removeRecord_38 : decode cX0_removeRecord 38 = .ok (.iastore, 1) := by decide +kernel
theorem dX0_removeRecord_39 : decode cX0_removeRecord 39 = .ok (.aload_n 0, 1) := by decide +kernel
theorem dX0_removeRecord_40 : decode cX0_removeRecord 40 = .ok (.getfield 19, 3) := by decide +kernel
theorem dX0_removeRecord_43 : decode cX0_removeRecord 43 = .ok (.iload_n 2, 1) := by decide +kernel
theorem dX0_removeRecord_44 : decode cX0_removeRecord 44 = .ok (.iconst 1, 1) := by decide +kernel
theorem dX0_removeRecord_45 : decode cX0_removeRecord 45 = .ok (.isub, 1) := by decide +kernel
theorem dX0_removeRecord_46 : decode cX0_removeRecord 46 = .ok (.aload_n 0, 1) := by decide +kernel
theorem dX0_removeRecord_47 : decode cX0_removeRecord 47 = .ok (.getfield 19, 3) := by decide +kernel
theorem dX0_removeRecord_50 : decode cX0_removeRecord 50 = .ok (.iload_n 2, 1) := by decide +kernel
theorem dX0_removeRecord_51 : decode cX0_removeRecord 51 = .ok (.iaload, 1) := by decide +kernel
theorem dX0_removeRecord_52 : decode cX0_removeRecord 52 = .ok (.iastore, 1) := by decide +kernel
theorem dX0_removeRecord_53 : decode cX0_removeRecord 53 = .ok (.aload_n 0, 1) := by decide +kernel
theorem dX0_removeRecord_54 : decode cX0_removeRecord 54 = .ok (.getfield 22, 3) := by decide +kernel
theorem dX0_removeRecord_57 : decode cX0_removeRecord 57 = .ok (.iload_n 2, 1) := by decide +kernel
theorem dX0_removeRecord_58 : decode cX0_removeRecord 58 = .ok (.iconst 1, 1) := by decide +kernel
theorem dX0_removeRecord_59 : decode cX0_removeRecord 59 = .ok (.isub, 1) := by decide +kernel
theorem dX0_removeRecord_60 : decode cX0_removeRecord 60 = .ok (.aload_n 0, 1) := by decide +kernel
theorem dX0_removeRecord_61 : decode cX0_removeRecord 61 = .ok (.getfield 22, 3) := by decide +kernel
theorem dX0_removeRecord_64 : decode cX0_removeRecord 64 = .ok (.iload_n 2, 1) := by decide +kernel
theorem dX0_removeRecord_65 : decode cX0_removeRecord 65 = .ok (.iaload, 1) := by decide +kernel
theorem dX0_removeRecord_66 : decode cX0_removeRecord 66 = .ok (.iastore, 1) := by decide +kernel
theorem dX0_removeRecord_67 : decode cX0_removeRecord 67 = .ok (.aload_n 0, 1) := by decide +kernel
theorem dX0_removeRecord_68 : decode cX0_removeRecord 68 = .ok (.getfield 25, 3) := by decide +kernel
theorem dX0_removeRecord_71 : decode cX0_removeRecord 71 = .ok (.iload_n 2, 1) := by decide +kernel
theorem dX0_removeRecord_72 : decode cX0_removeRecord 72 = .ok (.iconst 1, 1) := by decide +kernel
theorem dX0_removeRecord_73 : decode cX0_removeRecord 73 = .ok (.isub, 1) := by decide +kernel
theorem dX0_removeRecord_74 : decode cX0_removeRecord 74 = .ok (.aload_n 0, 1) := by decide +kernel
theorem dX0_removeRecord_75 : decode cX0_removeRecord 75 = .ok (.getfield 25, 3) := by decide +kernel
theorem dX0_removeRecord_78 : decode cX0_removeRecord 78 = .ok (.iload_n 2, 1) := by decide +kernel
theorem dX0_removeRecord_79 : decode cX0_removeRecord 79 = .ok (.laload, 1) := by decide +kernel
theorem dX0_removeRecord_80 : decode cX0_removeRecord 80 = .ok (.lastore, 1) := by decide +kernel
theorem dX0_removeRecord_81 : decode cX0_removeRecord 81 = .ok (.iinc 2 1, 3) := by decide +kernel
theorem dX0_removeRecord_84 : decode cX0_removeRecord 84 = .ok (.goto (-67), 3) := by decide +kernel
theorem dX0_removeRecord_87 : decode cX0_removeRecord 87 = .ok (.aload_n 0, 1) := by decide +kernel
theorem dX0_removeRecord_88 : decode cX0_removeRecord 88 = .ok (.dup, 1) := by decide +kernel
theorem dX0_removeRecord_89 : decode cX0_removeRecord 89 = .ok (.getfield 44, 3) := by decide +kernel
theorem dX0_removeRecord_92 : decode cX0_removeRecord 92 = .ok (.iconst 1, 1) := by decide +kernel
theorem dX0_removeRecord_93 : decode cX0_removeRecord 93 = .ok (.isub, 1) := by decide +kernel
theorem dX0_removeRecord_94 : decode cX0_removeRecord 94 = .ok (.putfield 44, 3) := by decide +kernel
theorem dX0_removeRecord_97 : decode cX0_removeRecord 97 = .ok (.return_, 1) := by decide +kernel
theorem dX0_find_0 : decode cX0_find 0 = .ok (.iconst 0, 1) := by decide +kernel
theorem dX0_find_1 : decode cX0_find 1 = .ok (.istore_n 2, 1) := by decide +kernel
theorem dX0_find_2 : decode cX0_find 2 = .ok (.iload_n 2, 1) := by decide +kernel
theorem dX0_find_3 : decode cX0_find 3 = .ok (.aload_n 0, 1) := by decide +kernel
theorem dX0_find_4 : decode cX0_find 4 = .ok (.getfield 44, 3) := by decide +kernel
theorem dX0_find_7 : decode cX0_find 7 = .ok (.if_icmp .ge 50, 3) := by decide +kernel
theorem dX0_find_10 : decode cX0_find 10 = .ok (.aload_n 0, 1) := by decide +kernel
theorem dX0_find_11 : decode cX0_find 11 = .ok (.getfield 15, 3) := by decide +kernel
theorem dX0_find_14 : decode cX0_find 14 = .ok (.iload_n 2, 1) := by decide +kernel
theorem dX0_find_15 : decode cX0_find 15 = .ok (.iaload, 1) := by decide +kernel
theorem dX0_find_16 : decode cX0_find 16 = .ok (.aload_n 1, 1) := by decide +kernel
theorem dX0_find_17 : decode cX0_find 17 = .ok (.getfield 62, 3) := by decide +kernel
theorem dX0_find_20 : decode cX0_find 20 = .ok (.if_icmp .ne 31, 3) := by decide +kernel
theorem dX0_find_23 : decode cX0_find 23 = .ok (.aload_n 0, 1) := by decide +kernel
theorem dX0_find_24 : decode cX0_find 24 = .ok (.getfield 19, 3) := by decide +kernel
theorem dX0_find_27 : decode cX0_find 27 = .ok (.iload_n 2, 1) := by decide +kernel
theorem dX0_find_28 : decode cX0_find 28 = .ok (.iaload, 1) := by decide +kernel
theorem dX0_find_29 : decode cX0_find 29 = .ok (.aload_n 1, 1) := by decide +kernel
theorem dX0_find_30 : decode cX0_find 30 = .ok (.getfield 67, 3) := by decide +kernel
theorem dX0_find_33 : decode cX0_find 33 = .ok (.if_icmp .ne 18, 3) := by decide +kernel
theorem dX0_find_36 : decode cX0_find 36 = .ok (.aload_n 0, 1) := by decide +kernel
theorem dX0_find_37 : decode cX0_find 37 = .ok (.getfield 22, 3) := by decide +kernel
theorem dX0_find_40 : decode cX0_find 40 = .ok (.iload_n 2, 1) := by decide +kernel
theorem dX0_find_41 : decode cX0_find 41 = .ok (.iaload, 1) := by decide +kernel
theorem dX0_find_42 : decode cX0_find 42 = .ok (.aload_n 1, 1) := by decide +kernel
theorem dX0_find_43 : decode cX0_find 43 = .ok (.getfield 84, 3) := by decide +kernel
theorem dX0_find_46 : decode cX0_find 46 = .ok (.if_icmp .ne 5, 3) := by decide +kernel
theorem dX0_find_49 : decode cX0_find 49 = .ok (.iload_n 2, 1) := by decide +kernel
theorem dX0_find_50 : decode cX0_find 50 = .ok (.ireturn, 1) := by decide +kernel
theorem dX0_find_51 : decode cX0_find 51 = .ok (.iinc 2 1, 3) := by decide +kernel
theorem dX0_find_54 : decode cX0_find 54 = .ok (.goto (-52), 3) := by decide +kernel
theorem dX0_find_57 : decode cX0_find 57 = .ok (.iconst (-1), 1) := by decide +kernel
theorem dX0_find_58 : decode cX0_find 58 = .ok (.ireturn, 1) := by decide +kernel
theorem dX0_addRecord_0 : decode cX0_addRecord 0 = .ok (.aload_n 0, 1) := by decide +kernel
theorem dX0_addRecord_1 : decode cX0_addRecord 1 = .ok (.getfield 44, 3) := by decide +kernel
theorem dX0_addRecord_4 : decode cX0_addRecord 4 = .ok (.bipush 12, 2) := by decide +kernel
theorem dX0_addRecord_6 : decode cX0_addRecord 6 = .ok (.if_icmp .lt 4, 3) := by decide +kernel
theorem dX0_addRecord_9 : decode cX0_addRecord 9 = .ok (.return_, 1) := by decide +kernel
theorem dX0_addRecord_10 : decode cX0_addRecord 10 = .ok (.aload_n 0, 1) := by decide +kernel
theorem dX0_addRecord_11 : decode cX0_addRecord 11 = .ok (.getfield 15, 3) := by decide +kernel
theorem dX0_addRecord_14 : decode cX0_addRecord 14 = .ok (.aload_n 0, 1) := by decide +kernel
theorem dX0_addRecord_15 : decode cX0_addRecord 15 = .ok (.getfield 44, 3) := by decide +kernel
theorem dX0_addRecord_18 : decode cX0_addRecord 18 = .ok (.aload_n 1, 1) := by decide +kernel
theorem dX0_addRecord_19 : decode cX0_addRecord 19 = .ok (.getfield 62, 3) := by decide +kernel
theorem dX0_addRecord_22 : decode cX0_addRecord 22 = .ok (.iastore, 1) := by decide +kernel
theorem dX0_addRecord_23 : decode cX0_addRecord 23 = .ok (.aload_n 0, 1) := by decide +kernel
theorem dX0_addRecord_24 : decode cX0_addRecord 24 = .ok (.getfield 19, 3) := by decide +kernel
theorem dX0_addRecord_27 : decode cX0_addRecord 27 = .ok (.aload_n 0, 1) := by decide +kernel
theorem dX0_addRecord_28 : decode cX0_addRecord 28 = .ok (.getfield 44, 3) := by decide +kernel
theorem dX0_addRecord_31 : decode cX0_addRecord 31 = .ok (.aload_n 1, 1) := by decide +kernel
theorem dX0_addRecord_32 : decode cX0_addRecord 32 = .ok (.getfield 67, 3) := by decide +kernel
theorem dX0_addRecord_35 : decode cX0_addRecord 35 = .ok (.iastore, 1) := by decide +kernel
theorem dX0_addRecord_36 : decode cX0_addRecord 36 = .ok (.aload_n 0, 1) := by decide +kernel
theorem dX0_addRecord_37 : decode cX0_addRecord 37 = .ok (.getfield 22, 3) := by decide +kernel
theorem dX0_addRecord_40 : decode cX0_addRecord 40 = .ok (.aload_n 0, 1) := by decide +kernel
theorem dX0_addRecord_41 : decode cX0_addRecord 41 = .ok (.getfield 44, 3) := by decide +kernel
theorem dX0_addRecord_44 : decode cX0_addRecord 44 = .ok (.aload_n 1, 1) := by decide +kernel
theorem dX0_addRecord_45 : decode cX0_addRecord 45 = .ok (.getfield 84, 3) := by decide +kernel
theorem dX0_addRecord_48 : decode cX0_addRecord 48 = .ok (.iastore, 1) := by decide +kernel
theorem dX0_addRecord_49 : decode cX0_addRecord 49 = .ok (.aload_n 0, 1) := by decide +kernel
theorem dX0_addRecord_50 : decode cX0_addRecord 50 = .ok (.getfield 25, 3) := by decide +kernel
theorem dX0_addRecord_53 : decode cX0_addRecord 53 = .ok (.aload_n 0, 1) := by decide +kernel
theorem dX0_addRecord_54 : decode cX0_addRecord 54 = .ok (.getfield 44, 3) := by decide +kernel
theorem dX0_addRecord_57 : decode cX0_addRecord 57 = .ok (.lload_n 2, 1) := by decide +kernel
theorem dX0_addRecord_58 : decode cX0_addRecord 58 = .ok (.lastore, 1) := by decide +kernel
theorem dX0_addRecord_59 : decode cX0_addRecord 59 = .ok (.aload_n 0, 1) := by decide +kernel
theorem dX0_addRecord_60 : decode cX0_addRecord 60 = .ok (.dup, 1) := by decide +kernel
theorem dX0_addRecord_61 : decode cX0_addRecord 61 = .ok (.getfield 44, 3) := by decide +kernel
theorem dX0_addRecord_64 : decode cX0_addRecord 64 = .ok (.iconst 1, 1) := by decide +kernel
theorem dX0_addRecord_65 : decode cX0_addRecord 65 = .ok (.iadd, 1) := by decide +kernel
theorem dX0_addRecord_66 : decode cX0_addRecord 66 = .ok (.putfield 44, 3) := by decide +kernel
theorem dX0_addRecord_69 : decode cX0_addRecord 69 = .ok (.return_, 1) := by decide +kernel
theorem dX0_doAct_0 : decode cX0_doAct 0 = .ok (.aload_n 1, 1) := by decide +kernel
theorem dX0_doAct_1 : decode cX0_doAct 1 = .ok (.getfield 87, 3) := by decide +kernel
theorem dX0_doAct_4 : decode cX0_doAct 4 = .ok (.invokestatic 90, 3) := by decide +kernel
theorem dX0_doAct_7 : decode cX0_doAct 7 = .ok (.istore_n 2, 1) := by decide +kernel
theorem dX0_doAct_8 : decode cX0_doAct 8 = .ok (.iload_n 2, 1) := by decide +kernel
theorem dX0_doAct_9 : decode cX0_doAct 9 = .ok (.ifCond .lt 8, 3) := by decide +kernel
theorem dX0_doAct_12 : decode cX0_doAct 12 = .ok (.iload_n 2, 1) := by decide +kernel
theorem dX0_doAct_13 : decode cX0_doAct 13 = .ok (.iconst 4, 1) := by decide +kernel
theorem dX0_doAct_14 : decode cX0_doAct 14 = .ok (.if_icmp .lt 5, 3) := by decide +kernel
theorem dX0_doAct_17 : decode cX0_doAct 17 = .ok (.lconst 0, 1) := by decide +kernel
theorem dX0_doAct_18 : decode cX0_doAct 18 = .ok (.lreturn, 1) := by decide +kernel
theorem dX0_doAct_19 : decode cX0_doAct 19 = .ok (.aload_n 0, 1) := by decide +kernel
theorem dX0_doAct_20 : decode cX0_doAct 20 = .ok (.getfield 9, 3) := by decide +kernel
theorem dX0_doAct_23 : decode cX0_doAct 23 = .ok (.iload_n 2, 1) := by decide +kernel
theorem dX0_doAct_24 : decode cX0_doAct 24 = .ok (.laload, 1) := by decide +kernel
theorem dX0_doAct_25 : decode cX0_doAct 25 = .ok (.lstore_n 3, 1) := by decide +kernel
theorem dX0_doAct_26 : decode cX0_doAct 26 = .ok (.aload_n 1, 1) := by decide +kernel
theorem dX0_doAct_27 : decode cX0_doAct 27 = .ok (.getfield 94, 3) := by decide +kernel
theorem dX0_doAct_30 : decode cX0_doAct 30 = .ok (.tableswitch 80 0 2 #[26, 38, 57], 26) := by decide +kernel
theorem dX0_doAct_56 : decode cX0_doAct 56 = .ok (.aload_n 0, 1) := by decide +kernel
theorem dX0_doAct_57 : decode cX0_doAct 57 = .ok (.getfield 9, 3) := by decide +kernel
theorem dX0_doAct_60 : decode cX0_doAct 60 = .ok (.iload_n 2, 1) := by decide +kernel
theorem dX0_doAct_61 : decode cX0_doAct 61 = .ok (.aload_n 1, 1) := by decide +kernel
theorem dX0_doAct_62 : decode cX0_doAct 62 = .ok (.getfield 97, 3) := by decide +kernel
theorem dX0_doAct_65 : decode cX0_doAct 65 = .ok (.lastore, 1) := by decide +kernel
theorem dX0_doAct_66 : decode cX0_doAct 66 = .ok (.lload_n 3, 1) := by decide +kernel
theorem dX0_doAct_67 : decode cX0_doAct 67 = .ok (.lreturn, 1) := by decide +kernel
theorem dX0_doAct_68 : decode cX0_doAct 68 = .ok (.aload_n 0, 1) := by decide +kernel
theorem dX0_doAct_69 : decode cX0_doAct 69 = .ok (.getfield 9, 3) := by decide +kernel
theorem dX0_doAct_72 : decode cX0_doAct 72 = .ok (.iload_n 2, 1) := by decide +kernel
theorem dX0_doAct_73 : decode cX0_doAct 73 = .ok (.lload_n 3, 1) := by decide +kernel
theorem dX0_doAct_74 : decode cX0_doAct 74 = .ok (.aload_n 1, 1) := by decide +kernel
theorem dX0_doAct_75 : decode cX0_doAct 75 = .ok (.getfield 97, 3) := by decide +kernel
theorem dX0_doAct_78 : decode cX0_doAct 78 = .ok (.ladd, 1) := by decide +kernel
theorem dX0_doAct_79 : decode cX0_doAct 79 = .ok (.lastore, 1) := by decide +kernel
theorem dX0_doAct_80 : decode cX0_doAct 80 = .ok (.aload_n 0, 1) := by decide +kernel
theorem dX0_doAct_81 : decode cX0_doAct 81 = .ok (.getfield 9, 3) := by decide +kernel
theorem dX0_doAct_84 : decode cX0_doAct 84 = .ok (.iload_n 2, 1) := by decide +kernel
theorem dX0_doAct_85 : decode cX0_doAct 85 = .ok (.laload, 1) := by decide +kernel
theorem dX0_doAct_86 : decode cX0_doAct 86 = .ok (.lreturn, 1) := by decide +kernel
theorem dX0_doAct_87 : decode cX0_doAct 87 = .ok (.lload_n 3, 1) := by decide +kernel
theorem dX0_doAct_88 : decode cX0_doAct 88 = .ok (.aload_n 1, 1) := by decide +kernel
theorem dX0_doAct_89 : decode cX0_doAct 89 = .ok (.getfield 97, 3) := by decide +kernel
theorem dX0_doAct_92 : decode cX0_doAct 92 = .ok (.lcmp, 1) := by decide +kernel
theorem dX0_doAct_93 : decode cX0_doAct 93 = .ok (.ifCond .eq 5, 3) := by decide +kernel
theorem dX0_doAct_96 : decode cX0_doAct 96 = .ok (.lconst 0, 1) := by decide +kernel
theorem dX0_doAct_97 : decode cX0_doAct 97 = .ok (.lreturn, 1) := by decide +kernel
theorem dX0_doAct_98 : decode cX0_doAct 98 = .ok (.aload_n 0, 1) := by decide +kernel
theorem dX0_doAct_99 : decode cX0_doAct 99 = .ok (.getfield 9, 3) := by decide +kernel
theorem dX0_doAct_102 : decode cX0_doAct 102 = .ok (.iload_n 2, 1) := by decide +kernel
theorem dX0_doAct_103 : decode cX0_doAct 103 = .ok (.aload_n 1, 1) := by decide +kernel
theorem dX0_doAct_104 : decode cX0_doAct 104 = .ok (.getfield 101, 3) := by decide +kernel
theorem dX0_doAct_107 : decode cX0_doAct 107 = .ok (.lastore, 1) := by decide +kernel
theorem dX0_doAct_108 : decode cX0_doAct 108 = .ok (.lconst 1, 1) := by decide +kernel
theorem dX0_doAct_109 : decode cX0_doAct 109 = .ok (.lreturn, 1) := by decide +kernel
theorem dX0_doAct_110 : decode cX0_doAct 110 = .ok (.aload_n 0, 1) := by decide +kernel
theorem dX0_doAct_111 : decode cX0_doAct 111 = .ok (.getfield 9, 3) := by decide +kernel
theorem dX0_doAct_114 : decode cX0_doAct 114 = .ok (.iload_n 2, 1) := by decide +kernel
theorem dX0_doAct_115 : decode cX0_doAct 115 = .ok (.lload_n 3, 1) := by decide +kernel
theorem dX0_doAct_116 : decode cX0_doAct 116 = .ok (.aload_n 1, 1) := by decide +kernel
theorem dX0_doAct_117 : decode cX0_doAct 117 = .ok (.getfield 97, 3) := by decide +kernel
theorem dX0_doAct_120 : decode cX0_doAct 120 = .ok (.lmul, 1) := by decide +kernel
theorem dX0_doAct_121 : decode cX0_doAct 121 = .ok (.lastore, 1) := by decide +kernel
theorem dX0_doAct_122 : decode cX0_doAct 122 = .ok (.aload_n 0, 1) := by decide +kernel
theorem dX0_doAct_123 : decode cX0_doAct 123 = .ok (.getfield 9, 3) := by decide +kernel
theorem dX0_doAct_126 : decode cX0_doAct 126 = .ok (.iload_n 2, 1) := by decide +kernel
theorem dX0_doAct_127 : decode cX0_doAct 127 = .ok (.laload, 1) := by decide +kernel
theorem dX0_doAct_128 : decode cX0_doAct 128 = .ok (.lreturn, 1) := by decide +kernel
theorem dX1_init_0 : decode cX1_init 0 = .ok (.aload_n 0, 1) := by decide +kernel
theorem dX1_init_1 : decode cX1_init 1 = .ok (.invokespecial 3, 3) := by decide +kernel
theorem dX1_init_4 : decode cX1_init 4 = .ok (.aload_n 0, 1) := by decide +kernel
theorem dX1_init_5 : decode cX1_init 5 = .ok (.bipush 8, 2) := by decide +kernel
theorem dX1_init_7 : decode cX1_init 7 = .ok (.newarray .int, 2) := by decide +kernel
theorem dX1_init_9 : decode cX1_init 9 = .ok (.putfield 9, 3) := by decide +kernel
theorem dX1_init_12 : decode cX1_init 12 = .ok (.aload_n 0, 1) := by decide +kernel
theorem dX1_init_13 : decode cX1_init 13 = .ok (.bipush 61, 2) := by decide +kernel
theorem dX1_init_15 : decode cX1_init 15 = .ok (.newarray .int, 2) := by decide +kernel
theorem dX1_init_17 : decode cX1_init 17 = .ok (.putfield 15, 3) := by decide +kernel
theorem dX1_init_20 : decode cX1_init 20 = .ok (.aload_n 0, 1) := by decide +kernel
theorem dX1_init_21 : decode cX1_init 21 = .ok (.bipush 61, 2) := by decide +kernel
theorem dX1_init_23 : decode cX1_init 23 = .ok (.newarray .int, 2) := by decide +kernel
theorem dX1_init_25 : decode cX1_init 25 = .ok (.putfield 18, 3) := by decide +kernel
theorem dX1_init_28 : decode cX1_init 28 = .ok (.aload_n 0, 1) := by decide +kernel
theorem dX1_init_29 : decode cX1_init 29 = .ok (.bipush 61, 2) := by decide +kernel
theorem dX1_init_31 : decode cX1_init 31 = .ok (.newarray .long, 2) := by decide +kernel
theorem dX1_init_33 : decode cX1_init 33 = .ok (.putfield 21, 3) := by decide +kernel
theorem dX1_init_36 : decode cX1_init 36 = .ok (.aload_n 0, 1) := by decide +kernel
theorem dX1_init_37 : decode cX1_init 37 = .ok (.bipush 61, 2) := by decide +kernel
theorem dX1_init_39 : decode cX1_init 39 = .ok (.newarray .long, 2) := by decide +kernel
theorem dX1_init_41 : decode cX1_init 41 = .ok (.putfield 25, 3) := by decide +kernel
theorem dX1_init_44 : decode cX1_init 44 = .ok (.aload_n 0, 1) := by decide +kernel
theorem dX1_init_45 : decode cX1_init 45 = .ok (.bipush 61, 2) := by decide +kernel
theorem dX1_init_47 : decode cX1_init 47 = .ok (.newarray .int, 2) := by decide +kernel
theorem dX1_init_49 : decode cX1_init 49 = .ok (.putfield 28, 3) := by decide +kernel
theorem dX1_init_52 : decode cX1_init 52 = .ok (.aload_n 0, 1) := by decide +kernel
theorem dX1_init_53 : decode cX1_init 53 = .ok (.bipush 61, 2) := by decide +kernel
theorem dX1_init_55 : decode cX1_init 55 = .ok (.newarray .long, 2) := by decide +kernel
theorem dX1_init_57 : decode cX1_init 57 = .ok (.putfield 31, 3) := by decide +kernel
theorem dX1_init_60 : decode cX1_init 60 = .ok (.aload_n 0, 1) := by decide +kernel
theorem dX1_init_61 : decode cX1_init 61 = .ok (.iload_n 1, 1) := by decide +kernel
theorem dX1_init_62 : decode cX1_init 62 = .ok (.putfield 34, 3) := by decide +kernel
theorem dX1_init_65 : decode cX1_init 65 = .ok (.iconst 1, 1) := by decide +kernel
theorem dX1_init_66 : decode cX1_init 66 = .ok (.iload_n 2, 1) := by decide +kernel
theorem dX1_init_67 : decode cX1_init 67 = .ok (.invokestatic 38, 3) := by decide +kernel
theorem dX1_init_70 : decode cX1_init 70 = .ok (.istore_n 3, 1) := by decide +kernel
theorem dX1_init_71 : decode cX1_init 71 = .ok (.iconst 0, 1) := by decide +kernel
theorem dX1_init_72 : decode cX1_init 72 = .ok (.istore 4, 2) := by decide +kernel
theorem dX1_init_74 : decode cX1_init 74 = .ok (.iload 4, 2) := by decide +kernel
theorem dX1_init_76 : decode cX1_init 76 = .ok (.bipush 8, 2) := by decide +kernel
theorem dX1_init_78 : decode cX1_init 78 = .ok (.if_icmp .ge 20, 3) := by decide +kernel
theorem dX1_init_81 : decode cX1_init 81 = .ok (.aload_n 0, 1) := by decide +kernel
theorem dX1_init_82 : decode cX1_init 82 = .ok (.getfield 9, 3) := by decide +kernel
theorem dX1_init_85 : decode cX1_init 85 = .ok (.iload 4, 2) := by decide +kernel
theorem dX1_init_87 : decode cX1_init 87 = .ok (.iload 4, 2) := by decide +kernel
theorem dX1_init_89 : decode cX1_init 89 = .ok (.iload_n 3, 1) := by decide +kernel
theorem dX1_init_90 : decode cX1_init 90 = .ok (.irem, 1) := by decide +kernel
theorem dX1_init_91 : decode cX1_init 91 = .ok (.iastore, 1) := by decide +kernel
theorem dX1_init_92 : decode cX1_init 92 = .ok (.iinc 4 1, 3) := by decide +kernel
theorem dX1_init_95 : decode cX1_init 95 = .ok (.goto (-21), 3) := by decide +kernel
theorem dX1_init_98 : decode cX1_init 98 = .ok (.return_, 1) := by decide +kernel
theorem dX1_hasCall_0 : decode cX1_hasCall 0 = .ok (.iload_n 1, 1) := by decide +kernel
theorem dX1_hasCall_1 : decode cX1_hasCall 1 = .ok (.iconst 1, 1) := by decide +kernel
theorem dX1_hasCall_2 : decode cX1_hasCall 2 = .ok (.if_icmp .lt 15, 3) := by decide +kernel
theorem dX1_hasCall_5 : decode cX1_hasCall 5 = .ok (.iload_n 1, 1) := by decide +kernel
theorem dX1_hasCall_6 : decode cX1_hasCall 6 = .ok (.aload_n 0, 1) := by decide +kernel
theorem dX1_hasCall_7 : decode cX1_hasCall 7 = .ok (.getfield 44, 3) := by decide +kernel
theorem dX1_hasCall_10 : decode cX1_hasCall 10 = .ok (.if_icmp .gt 7, 3) := by decide +kernel
theorem dX1_hasCall_13 : decode cX1_hasCall 13 = .ok (.iconst 1, 1) := by decide +kernel
theorem dX1_hasCall_14 : decode cX1_hasCall 14 = .ok (.goto 4, 3) := by decide +kernel
theorem dX1_hasCall_17 : decode cX1_hasCall 17 = .ok (.iconst 0, 1) := by decide +kernel
theorem dX1_hasCall_18 : decode cX1_hasCall 18 = .ok (.ireturn, 1) := by decide +kernel
theorem dX1_newCall_0 : decode cX1_newCall 0 = .ok (.aload_n 0, 1) := by decide +kernel
theorem dX1_newCall_1 : decode cX1_newCall 1 = .ok (.getfield 44, 3) := by decide +kernel
theorem dX1_newCall_4 : decode cX1_newCall 4 = .ok (.bipush 60, 2) := by decide +kernel
theorem dX1_newCall_6 : decode cX1_newCall 6 = .ok (.if_icmp .lt 6, 3) := by decide +kernel
theorem dX1_newCall_9 : decode cX1_newCall 9 = .ok (.bipush (-2), 2) := by decide +kernel
theorem dX1_newCall_11 : decode cX1_newCall 11 = .ok (.ireturn, 1) := by decide +kernel
theorem dX1_newCall_12 : decode cX1_newCall 12 = .ok (.aload_n 0, 1) := by decide +kernel
theorem dX1_newCall_13 : decode cX1_newCall 13 = .ok (.dup, 1) := by decide +kernel
theorem dX1_newCall_14 : decode cX1_newCall 14 = .ok (.getfield 44, 3) := by decide +kernel
theorem dX1_newCall_17 : decode cX1_newCall 17 = .ok (.iconst 1, 1) := by decide +kernel
theorem dX1_newCall_18 : decode cX1_newCall 18 = .ok (.iadd, 1) := by decide +kernel
theorem dX1_newCall_19 : decode cX1_newCall 19 = .ok (.putfield 44, 3) := by decide +kernel
theorem dX1_newCall_22 : decode cX1_newCall 22 = .ok (.aload_n 0, 1) := by decide +kernel
theorem dX1_newCall_23 : decode cX1_newCall 23 = .ok (.getfield 15, 3) := by decide +kernel
theorem dX1_newCall_26 : decode cX1_newCall 26 = .ok (.aload_n 0, 1) := by decide +kernel
theorem dX1_newCall_27 : decode cX1_newCall 27 = .ok (.getfield 44, 3) := by decide +kernel
theorem dX1_newCall_30 : decode cX1_newCall 30 = .ok (.iload_n 1, 1) := by decide +kernel
theorem dX1_newCall_31 : decode cX1_newCall 31 = .ok (.iastore, 1) := by decide +kernel
theorem dX1_newCall_32 : decode cX1_newCall 32 = .ok (.aload_n 0, 1) := by decide +kernel
theorem dX1_newCall_33 : decode cX1_newCall 33 = .ok (.getfield 18, 3) := by decide +kernel
theorem dX1_newCall_36 : decode cX1_newCall 36 = .ok (.aload_n 0, 1) := by decide +kernel
theorem dX1_newCall_37 : decode cX1_newCall 37 = .ok (.getfield 44, 3) := by decide +kernel
theorem dX1_newCall_40 : decode cX1_newCall 40 = .ok (.iload_n 2, 1) := by decide +kernel
theorem dX1_newCall_41 : decode cX1_newCall 41 = .ok (.iastore, 1) := by decide +kernel
theorem dX1_newCall_42 : decode cX1_newCall 42 = .ok (.aload_n 0, 1) := by decide +kernel
theorem dX1_newCall_43 : decode cX1_newCall 43 = .ok (.getfield 21, 3) := by decide +kernel
theorem dX1_newCall_46 : decode cX1_newCall 46 = .ok (.aload_n 0, 1) := by decide +kernel
theorem dX1_newCall_47 : decode cX1_newCall 47 = .ok (.getfield 44, 3) := by decide +kernel
theorem dX1_newCall_50 : decode cX1_newCall 50 = .ok (.lload_n 3, 1) := by decide +kernel
theorem dX1_newCall_51 : decode cX1_newCall 51 = .ok (.lastore, 1) := by decide +kernel
theorem dX1_newCall_52 : decode cX1_newCall 52 = .ok (.aload_n 0, 1) := by decide +kernel
theorem dX1_newCall_53 : decode cX1_newCall 53 = .ok (.getfield 25, 3) := by decide +kernel
theorem dX1_newCall_56 : decode cX1_newCall 56 = .ok (.aload_n 0, 1) := by decide +kernel
theorem dX1_newCall_57 : decode cX1_newCall 57 = .ok (.getfield 44, 3) := by decide +kernel
theorem dX1_newCall_60 : decode cX1_newCall 60 = .ok (.lload 5, 2) := by decide +kernel
theorem dX1_newCall_62 : decode cX1_newCall 62 = .ok (.lastore, 1) := by decide +kernel
theorem dX1_newCall_63 : decode cX1_newCall 63 = .ok (.aload_n 0, 1) := by decide +kernel
theorem dX1_newCall_64 : decode cX1_newCall 64 = .ok (.getfield 28, 3) := by decide +kernel
theorem dX1_newCall_67 : decode cX1_newCall 67 = .ok (.aload_n 0, 1) := by decide +kernel
theorem dX1_newCall_68 : decode cX1_newCall 68 = .ok (.getfield 44, 3) := by decide +kernel
theorem dX1_newCall_71 : decode cX1_newCall 71 = .ok (.iconst 0, 1) := by decide +kernel
theorem dX1_newCall_72 : decode cX1_newCall 72 = .ok (.iastore, 1) := by decide +kernel
theorem dX1_newCall_73 : decode cX1_newCall 73 = .ok (.aload_n 0, 1) := by decide +kernel
theorem dX1_newCall_74 : decode cX1_newCall 74 = .ok (.getfield 31, 3) := by decide +kernel
theorem dX1_newCall_77 : decode cX1_newCall 77 = .ok (.aload_n 0, 1) := by decide +kernel
theorem dX1_newCall_78 : decode cX1_newCall 78 = .ok (.getfield 44, 3) := by decide +kernel
theorem dX1_newCall_81 : decode cX1_newCall 81 = .ok (.lconst 0, 1) := by decide +kernel
theorem dX1_newCall_82 : decode cX1_newCall 82 = .ok (.lastore, 1) := by decide +kernel
theorem dX1_newCall_83 : decode cX1_newCall 83 = .ok (.aload_n 0, 1) := by decide +kernel
theorem dX1_newCall_84 : decode cX1_newCall 84 = .ok (.getfield 44, 3) := by decide +kernel
theorem dX1_newCall_87 : decode cX1_newCall 87 = .ok (.ireturn, 1) := by decide +kernel
theorem dX1_first_0 : decode cX1_first 0 = .ok (.iconst 1, 1) := by decide +kernel
theorem dX1_first_1 : decode cX1_first 1 = .ok (.istore_n 1, 1) := by decide +kernel
theorem dX1_first_2 : decode cX1_first 2 = .ok (.iload_n 1, 1) := by decide +kernel
theorem dX1_first_3 : decode cX1_first 3 = .ok (.aload_n 0, 1) := by decide +kernel
theorem dX1_first_4 : decode cX1_first 4 = .ok (.getfield 44, 3) := by decide +kernel
theorem dX1_first_7 : decode cX1_first 7 = .ok (.if_icmp .gt 20, 3) := by decide +kernel
theorem dX1_first_10 : decode cX1_first 10 = .ok (.aload_n 0, 1) := by decide +kernel
theorem dX1_first_11 : decode cX1_first 11 = .ok (.getfield 28, 3) := by decide +kernel
theorem dX1_first_14 : decode cX1_first 14 = .ok (.iload_n 1, 1) := by decide +kernel
theorem dX1_first_15 : decode cX1_first 15 = .ok (.iaload, 1) := by decide +kernel
theorem dX1_first_16 : decode cX1_first 16 = .ok (.ifCond .ne 5, 3) := by decide +kernel
theorem dX1_first_19 : decode cX1_first 19 = .ok (.iload_n 1, 1) := by decide +kernel
theorem dX1_first_20 : decode cX1_first 20 = .ok (.ireturn, 1) := by decide +kernel
theorem dX1_first_21 : decode cX1_first 21 = .ok (.iinc 1 1, 3) := by decide +kernel
theorem dX1_first_24 : decode cX1_first 24 = .ok (.goto (-22), 3) := by decide +kernel
theorem dX1_first_27 : decode cX1_first 27 = .ok (.aload_n 0, 1) := by decide +kernel
theorem dX1_first_28 : decode cX1_first 28 = .ok (.getfield 44, 3) := by decide +kernel
theorem dX1_first_31 : decode cX1_first 31 = .ok (.iconst 1, 1) := by decide +kernel
theorem dX1_first_32 : decode cX1_first 32 = .ok (.iadd, 1) := by decide +kernel
theorem dX1_first_33 : decode cX1_first 33 = .ok (.ireturn, 1) := by decide +kernel
theorem dX1_waiting_0 : decode cX1_waiting 0 = .ok (.iconst 0, 1) := by decide +kernel
theorem dX1_waiting_1 : decode cX1_waiting 1 = .ok (.istore_n 1, 1) := by decide +kernel
theorem dX1_waiting_2 : decode cX1_waiting 2 = .ok (.iconst 1, 1) := by decide +kernel
theorem dX1_waiting_3 : decode cX1_waiting 3 = .ok (.istore_n 2, 1) := by decide +kernel
theorem dX1_waiting_4 : decode cX1_waiting 4 = .ok (.iload_n 2, 1) := by decide +kernel
theorem dX1_waiting_5 : decode cX1_waiting 5 = .ok (.aload_n 0, 1) := by decide +kernel
theorem dX1_waiting_6 : decode cX1_waiting 6 = .ok (.getfield 44, 3) := by decide +kernel
theorem dX1_waiting_9 : decode cX1_waiting 9 = .ok (.if_icmp .gt 21, 3) := by decide +kernel
theorem dX1_waiting_12 : decode cX1_waiting 12 = .ok (.aload_n 0, 1) := by decide +kernel
theorem dX1_waiting_13 : decode cX1_waiting 13 = .ok (.getfield 28, 3) := by decide +kernel
theorem dX1_waiting_16 : decode cX1_waiting 16 = .ok (.iload_n 2, 1) := by decide +kernel
theorem dX1_waiting_17 : decode cX1_waiting 17 = .ok (.iaload, 1) := by decide +kernel
theorem dX1_waiting_18 : decode cX1_waiting 18 = .ok (.ifCond .ne 6, 3) := by decide +kernel
theorem dX1_waiting_21 : decode cX1_waiting 21 = .ok (.iinc 1 1, 3) := by decide +kernel
theorem dX1_waiting_24 : decode cX1_waiting 24 = .ok (.iinc 2 1, 3) := by decide +kernel
theorem dX1_waiting_27 : decode cX1_waiting 27 = .ok (.goto (-23), 3) := by decide +kernel
theorem dX1_waiting_30 : decode cX1_waiting 30 = .ok (.iload_n 1, 1) := by decide +kernel
theorem dX1_waiting_31 : decode cX1_waiting 31 = .ok (.ireturn, 1) := by decide +kernel
theorem dX1_refuseWaiting_0 : decode cX1_refuseWaiting 0 = .ok (.iconst 1, 1) := by decide +kernel
theorem dX1_refuseWaiting_1 : decode cX1_refuseWaiting 1 = .ok (.istore_n 1, 1) := by decide +kernel
theorem dX1_refuseWaiting_2 : decode cX1_refuseWaiting 2 = .ok (.iload_n 1, 1) := by decide +kernel
theorem dX1_refuseWaiting_3 : decode cX1_refuseWaiting 3 = .ok (.aload_n 0, 1) := by decide +kernel
theorem dX1_refuseWaiting_4 : decode cX1_refuseWaiting 4 = .ok (.getfield 44, 3) := by decide +kernel
theorem dX1_refuseWaiting_7 : decode cX1_refuseWaiting 7 = .ok (.if_icmp .gt 25, 3) := by decide +kernel
theorem dX1_refuseWaiting_10 : decode cX1_refuseWaiting 10 = .ok (.aload_n 0, 1) := by decide +kernel
theorem dX1_refuseWaiting_11 : decode cX1_refuseWaiting 11 = .ok (.getfield 28, 3) := by decide +kernel
theorem dX1_refuseWaiting_14 : decode cX1_refuseWaiting 14 = .ok (.iload_n 1, 1) := by decide +kernel
theorem dX1_refuseWaiting_15 : decode cX1_refuseWaiting 15 = .ok (.iaload, 1) := by decide +kernel
theorem dX1_refuseWaiting_16 : decode cX1_refuseWaiting 16 = .ok (.ifCond .ne 10, 3) := by decide +kernel
theorem dX1_refuseWaiting_19 : decode cX1_refuseWaiting 19 = .ok (.aload_n 0, 1) := by decide +kernel
theorem dX1_refuseWaiting_20 : decode cX1_refuseWaiting 20 = .ok (.getfield 28, 3) := by decide +kernel
theorem dX1_refuseWaiting_23 : decode cX1_refuseWaiting 23 = .ok (.iload_n 1, 1) := by decide +kernel
theorem dX1_refuseWaiting_24 : decode cX1_refuseWaiting 24 = .ok (.iconst 2, 1) := by decide +kernel
theorem dX1_refuseWaiting_25 : decode cX1_refuseWaiting 25 = .ok (.iastore, 1) := by decide +kernel
theorem dX1_refuseWaiting_26 : decode cX1_refuseWaiting 26 = .ok (.iinc 1 1, 3) := by decide +kernel
theorem dX1_refuseWaiting_29 : decode cX1_refuseWaiting 29 = .ok (.goto (-27), 3) := by decide +kernel
theorem dX1_refuseWaiting_32 : decode cX1_refuseWaiting 32 = .ok (.return_, 1) := by decide +kernel
theorem dX2_init_0 : decode cX2_init 0 = .ok (.aload_n 0, 1) := by decide +kernel
theorem dX2_init_1 : decode cX2_init 1 = .ok (.invokespecial 3, 3) := by decide +kernel
theorem dX2_init_4 : decode cX2_init 4 = .ok (.aload_n 0, 1) := by decide +kernel
theorem dX2_init_5 : decode cX2_init 5 = .ok (.iload_n 1, 1) := by decide +kernel
theorem dX2_init_6 : decode cX2_init 6 = .ok (.putfield 9, 3) := by decide +kernel
theorem dX2_init_9 : decode cX2_init 9 = .ok (.aload_n 0, 1) := by decide +kernel
theorem dX2_init_10 : decode cX2_init 10 = .ok (.iload_n 2, 1) := by decide +kernel
theorem dX2_init_11 : decode cX2_init 11 = .ok (.putfield 15, 3) := by decide +kernel
theorem dX2_init_14 : decode cX2_init 14 = .ok (.aload_n 0, 1) := by decide +kernel
theorem dX2_init_15 : decode cX2_init 15 = .ok (.iload_n 3, 1) := by decide +kernel
theorem dX2_init_16 : decode cX2_init 16 = .ok (.putfield 18, 3) := by decide +kernel
theorem dX2_init_19 : decode cX2_init 19 = .ok (.return_, 1) := by decide +kernel
theorem dX2_isBetweenServers_0 : decode cX2_isBetweenServers 0 = .ok (.aload_n 0, 1) := by decide +kernel
theorem dX2_isBetweenServers_1 : decode cX2_isBetweenServers 1 = .ok (.getfield 9, 3) := by decide +kernel
theorem dX2_isBetweenServers_4 : decode cX2_isBetweenServers 4 = .ok (.iconst 3, 1) := by decide +kernel
theorem dX2_isBetweenServers_5 : decode cX2_isBetweenServers 5 = .ok (.if_icmp .eq 11, 3) := by decide +kernel
theorem dX2_isBetweenServers_8 : decode cX2_isBetweenServers 8 = .ok (.aload_n 0, 1) := by decide +kernel
theorem dX2_isBetweenServers_9 : decode cX2_isBetweenServers 9 = .ok (.getfield 9, 3) := by decide +kernel
theorem dX2_isBetweenServers_12 : decode cX2_isBetweenServers 12 = .ok (.iconst 4, 1) := by decide +kernel
theorem dX2_isBetweenServers_13 : decode cX2_isBetweenServers 13 = .ok (.if_icmp .ne 7, 3) := by decide +kernel
theorem dX2_isBetweenServers_16 : decode cX2_isBetweenServers 16 = .ok (.iconst 1, 1) := by decide +kernel
theorem dX2_isBetweenServers_17 : decode cX2_isBetweenServers 17 = .ok (.goto 4, 3) := by decide +kernel
theorem dX2_isBetweenServers_20 : decode cX2_isBetweenServers 20 = .ok (.iconst 0, 1) := by decide +kernel
theorem dX2_isBetweenServers_21 : decode cX2_isBetweenServers 21 = .ok (.ireturn, 1) := by decide +kernel
theorem dX2_part_0 : decode cX2_part 0 = .ok (.iload_n 1, 1) := by decide +kernel
theorem dX2_part_1 : decode cX2_part 1 = .ok (.tableswitch 83 0 5 #[39, 44, 49, 54, 73, 78], 39) := by decide +kernel
theorem dX2_part_40 : decode cX2_part 40 = .ok (.aload_n 0, 1) := by decide +kernel
theorem dX2_part_41 : decode cX2_part 41 = .ok (.getfield 9, 3) := by decide +kernel
theorem dX2_part_44 : decode cX2_part 44 = .ok (.ireturn, 1) := by decide +kernel
theorem dX2_part_45 : decode cX2_part 45 = .ok (.aload_n 0, 1) := by decide +kernel
theorem dX2_part_46 : decode cX2_part 46 = .ok (.getfield 15, 3) := by decide +kernel
theorem dX2_part_49 : decode cX2_part 49 = .ok (.ireturn, 1) := by decide +kernel
theorem dX2_part_50 : decode cX2_part 50 = .ok (.aload_n 0, 1) := by decide +kernel
theorem dX2_part_51 : decode cX2_part 51 = .ok (.getfield 18, 3) := by decide +kernel
theorem dX2_part_54 : decode cX2_part 54 = .ok (.ireturn, 1) := by decide +kernel
theorem dX2_part_55 : decode cX2_part 55 = .ok (.aload_n 0, 1) := by decide +kernel
theorem dX2_part_56 : decode cX2_part 56 = .ok (.invokevirtual 21, 3) := by decide +kernel
theorem dX2_part_59 : decode cX2_part 59 = .ok (.ifCond .eq 10, 3) := by decide +kernel
theorem dX2_part_62 : decode cX2_part 62 = .ok (.aload_n 0, 1) := by decide +kernel
theorem dX2_part_63 : decode cX2_part 63 = .ok (.getfield 25, 3) := by decide +kernel
theorem dX2_part_66 : decode cX2_part 66 = .ok (.goto 7, 3) := by decide +kernel
theorem dX2_part_69 : decode cX2_part 69 = .ok (.aload_n 0, 1) := by decide +kernel
theorem dX2_part_70 : decode cX2_part 70 = .ok (.getfield 28, 3) := by decide +kernel
theorem dX2_part_73 : decode cX2_part 73 = .ok (.ireturn, 1) := by decide +kernel
theorem dX2_part_74 : decode cX2_part 74 = .ok (.aload_n 0, 1) := by decide +kernel
theorem dX2_part_75 : decode cX2_part 75 = .ok (.invokevirtual 31, 3) := by decide +kernel
theorem dX2_part_78 : decode cX2_part 78 = .ok (.ireturn, 1) := by decide +kernel
theorem dX2_part_79 : decode cX2_part 79 = .ok (.aload_n 0, 1) := by decide +kernel
theorem dX2_part_80 : decode cX2_part 80 = .ok (.invokevirtual 35, 3) := by decide +kernel
theorem dX2_part_83 : decode cX2_part 83 = .ok (.ireturn, 1) := by decide +kernel
theorem dX2_part_84 : decode cX2_part 84 = .ok (.iconst (-1), 1) := by decide +kernel
theorem dX2_part_85 : decode cX2_part 85 = .ok (.ireturn, 1) := by decide +kernel
theorem dX2_fourthPart_0 : decode cX2_fourthPart 0 = .ok (.aload_n 0, 1) := by decide +kernel
theorem dX2_fourthPart_1 : decode cX2_fourthPart 1 = .ok (.invokevirtual 21, 3) := by decide +kernel
theorem dX2_fourthPart_4 : decode cX2_fourthPart 4 = .ok (.ifCond .eq 8, 3) := by decide +kernel
theorem dX2_fourthPart_7 : decode cX2_fourthPart 7 = .ok (.aload_n 0, 1) := by decide +kernel
theorem dX2_fourthPart_8 : decode cX2_fourthPart 8 = .ok (.getfield 38, 3) := by decide +kernel
theorem dX2_fourthPart_11 : decode cX2_fourthPart 11 = .ok (.ireturn, 1) := by decide +kernel
theorem dX2_fourthPart_12 : decode cX2_fourthPart 12 = .ok (.aload_n 0, 1) := by decide +kernel
theorem dX2_fourthPart_13 : decode cX2_fourthPart 13 = .ok (.getfield 9, 3) := by decide +kernel
theorem dX2_fourthPart_16 : decode cX2_fourthPart 16 = .ok (.iconst 5, 1) := by decide +kernel
theorem dX2_fourthPart_17 : decode cX2_fourthPart 17 = .ok (.if_icmp .ne 10, 3) := by decide +kernel
theorem dX2_fourthPart_20 : decode cX2_fourthPart 20 = .ok (.aload_n 0, 1) := by decide +kernel
theorem dX2_fourthPart_21 : decode cX2_fourthPart 21 = .ok (.getfield 41, 3) := by decide +kernel
theorem dX2_fourthPart_24 : decode cX2_fourthPart 24 = .ok (.goto 7, 3) := by decide +kernel
theorem dX2_fourthPart_27 : decode cX2_fourthPart 27 = .ok (.aload_n 0, 1) := by decide +kernel
theorem dX2_fourthPart_28 : decode cX2_fourthPart 28 = .ok (.getfield 44, 3) := by decide +kernel
theorem dX2_fourthPart_31 : decode cX2_fourthPart 31 = .ok (.ireturn, 1) := by decide +kernel
theorem dX2_fifthPart_0 : decode cX2_fifthPart 0 = .ok (.aload_n 0, 1) := by decide +kernel
theorem dX2_fifthPart_1 : decode cX2_fifthPart 1 = .ok (.getfield 9, 3) := by decide +kernel
theorem dX2_fifthPart_4 : decode cX2_fifthPart 4 = .ok (.iconst 1, 1) := by decide +kernel
theorem dX2_fifthPart_5 : decode cX2_fifthPart 5 = .ok (.if_icmp .ne 8, 3) := by decide +kernel
theorem dX2_fifthPart_8 : decode cX2_fifthPart 8 = .ok (.aload_n 0, 1) := by decide +kernel
theorem dX2_fifthPart_9 : decode cX2_fifthPart 9 = .ok (.getfield 41, 3) := by decide +kernel
theorem dX2_fifthPart_12 : decode cX2_fifthPart 12 = .ok (.ireturn, 1) := by decide +kernel
theorem dX2_fifthPart_13 : decode cX2_fifthPart 13 = .ok (.aload_n 0, 1) := by decide +kernel
theorem dX2_fifthPart_14 : decode cX2_fifthPart 14 = .ok (.getfield 9, 3) := by decide +kernel
theorem dX2_fifthPart_17 : decode cX2_fifthPart 17 = .ok (.iconst 2, 1) := by decide +kernel
theorem dX2_fifthPart_18 : decode cX2_fifthPart 18 = .ok (.if_icmp .ne 8, 3) := by decide +kernel
theorem dX2_fifthPart_21 : decode cX2_fifthPart 21 = .ok (.aload_n 0, 1) := by decide +kernel
theorem dX2_fifthPart_22 : decode cX2_fifthPart 22 = .ok (.getfield 47, 3) := by decide +kernel
theorem dX2_fifthPart_25 : decode cX2_fifthPart 25 = .ok (.ireturn, 1) := by decide +kernel
theorem dX2_fifthPart_26 : decode cX2_fifthPart 26 = .ok (.aload_n 0, 1) := by decide +kernel
theorem dX2_fifthPart_27 : decode cX2_fifthPart 27 = .ok (.getfield 50, 3) := by decide +kernel
theorem dX2_fifthPart_30 : decode cX2_fifthPart 30 = .ok (.ifnonnull 7, 3) := by decide +kernel
theorem dX2_fifthPart_33 : decode cX2_fifthPart 33 = .ok (.iconst 0, 1) := by decide +kernel
theorem dX2_fifthPart_34 : decode cX2_fifthPart 34 = .ok (.goto 10, 3) := by decide +kernel
theorem dX2_fifthPart_37 : decode cX2_fifthPart 37 = .ok (.aload_n 0, 1) := by decide +kernel
theorem dX2_fifthPart_38 : decode cX2_fifthPart 38 = .ok (.getfield 50, 3) := by decide +kernel
theorem dX2_fifthPart_41 : decode cX2_fifthPart 41 = .ok (.getfield 54, 3) := by decide +kernel
theorem dX2_fifthPart_44 : decode cX2_fifthPart 44 = .ok (.ireturn, 1) := by decide +kernel
theorem dX3_init_0 : decode cX3_init 0 = .ok (.aload_n 0, 1) := by decide +kernel
theorem dX3_init_1 : decode cX3_init 1 = .ok (.invokespecial 1, 3) := by decide +kernel
theorem dX3_init_4 : decode cX3_init 4 = .ok (.aload_n 0, 1) := by decide +kernel
theorem dX3_init_5 : decode cX3_init 5 = .ok (.iconst 0, 1) := by decide +kernel
theorem dX3_init_6 : decode cX3_init 6 = .ok (.iload_n 1, 1) := by decide +kernel
theorem dX3_init_7 : decode cX3_init 7 = .ok (.invokestatic 7, 3) := by decide +kernel
theorem dX3_init_10 : decode cX3_init 10 = .ok (.anewarray 13, 3) := by decide +kernel
theorem dX3_init_13 : decode cX3_init 13 = .ok (.putfield 15, 3) := by decide +kernel
theorem dX3_init_16 : decode cX3_init 16 = .ok (.return_, 1) := by decide +kernel
theorem dX3_at_0 : decode cX3_at 0 = .ok (.iload_n 1, 1) := by decide +kernel
theorem dX3_at_1 : decode cX3_at 1 = .ok (.ifCond .lt 20, 3) := by decide +kernel
theorem dX3_at_4 : decode cX3_at 4 = .ok (.iload_n 1, 1) := by decide +kernel
theorem dX3_at_5 : decode cX3_at 5 = .ok (.aload_n 0, 1) := by decide +kernel
theorem dX3_at_6 : decode cX3_at 6 = .ok (.getfield 21, 3) := by decide +kernel
theorem dX3_at_9 : decode cX3_at 9 = .ok (.if_icmp .ge 12, 3) := by decide +kernel
theorem dX3_at_12 : decode cX3_at 12 = .ok (.aload_n 0, 1) := by decide +kernel
theorem dX3_at_13 : decode cX3_at 13 = .ok (.getfield 15, 3) := by decide +kernel
theorem dX3_at_16 : decode cX3_at 16 = .ok (.iload_n 1, 1) := by decide +kernel
theorem dX3_at_17 : decode cX3_at 17 = .ok (.aaload, 1) := by decide +kernel
theorem dX3_at_18 : decode cX3_at 18 = .ok (.goto 4, 3) := by decide +kernel
theorem dX3_at_21 : decode cX3_at 21 = .ok (.aconst_null, 1) := by decide +kernel
theorem dX3_at_22 : decode cX3_at 22 = .ok (.areturn, 1) := by decide +kernel
theorem dX3_append_0 : decode cX3_append 0 = .ok (.aload_n 0, 1) := by decide +kernel
theorem dX3_append_1 : decode cX3_append 1 = .ok (.getfield 21, 3) := by decide +kernel
theorem dX3_append_4 : decode cX3_append 4 = .ok (.aload_n 0, 1) := by decide +kernel
theorem dX3_append_5 : decode cX3_append 5 = .ok (.getfield 15, 3) := by decide +kernel
theorem dX3_append_8 : decode cX3_append 8 = .ok (.arraylength, 1) := by decide +kernel
theorem dX3_append_9 : decode cX3_append 9 = .ok (.if_icmp .lt 5, 3) := by decide +kernel
theorem dX3_append_12 : decode cX3_append 12 = .ok (.iconst 0, 1) := by decide +kernel
theorem dX3_append_13 : decode cX3_append 13 = .ok (.ireturn, 1) := by decide +kernel
theorem dX3_append_14 : decode cX3_append 14 = .ok (.aload_n 0, 1) := by decide +kernel
theorem dX3_append_15 : decode cX3_append 15 = .ok (.getfield 15, 3) := by decide +kernel
theorem dX3_append_18 : decode cX3_append 18 = .ok (.aload_n 0, 1) := by decide +kernel
theorem dX3_append_19 : decode cX3_append 19 = .ok (.getfield 21, 3) := by decide +kernel
theorem dX3_append_22 : decode cX3_append 22 = .ok (.aload_n 1, 1) := by decide +kernel
theorem dX3_append_23 : decode cX3_append 23 = .ok (.aastore, 1) := by decide +kernel
theorem dX3_append_24 : decode cX3_append 24 = .ok (.aload_n 0, 1) := by decide +kernel
theorem dX3_append_25 : decode cX3_append 25 = .ok (.dup, 1) := by decide +kernel
theorem dX3_append_26 : decode cX3_append 26 = .ok (.getfield 21, 3) := by decide +kernel
theorem dX3_append_29 : decode cX3_append 29 = .ok (.iconst 1, 1) := by decide +kernel
theorem dX3_append_30 : decode cX3_append 30 = .ok (.iadd, 1) := by decide +kernel
theorem dX3_append_31 : decode cX3_append 31 = .ok (.putfield 21, 3) := by decide +kernel
theorem dX3_append_34 : decode cX3_append 34 = .ok (.iconst 1, 1) := by decide +kernel
theorem dX3_append_35 : decode cX3_append 35 = .ok (.ireturn, 1) := by decide +kernel
theorem dX3_removeAt_0 : decode cX3_removeAt 0 = .ok (.iload_n 1, 1) := by decide +kernel
theorem dX3_removeAt_1 : decode cX3_removeAt 1 = .ok (.ifCond .lt 11, 3) := by decide +kernel
theorem dX3_removeAt_4 : decode cX3_removeAt 4 = .ok (.iload_n 1, 1) := by decide +kernel
theorem dX3_removeAt_5 : decode cX3_removeAt 5 = .ok (.aload_n 0, 1) := by decide +kernel
theorem dX3_removeAt_6 : decode cX3_removeAt 6 = .ok (.getfield 21, 3) := by decide +kernel
theorem dX3_removeAt_9 : decode cX3_removeAt 9 = .ok (.if_icmp .lt 4, 3) := by decide +kernel
theorem dX3_removeAt_12 : decode cX3_removeAt 12 = .ok (.return_, 1) := by decide +kernel
theorem dX3_removeAt_13 : decode cX3_removeAt 13 = .ok (.iload_n 1, 1) := by decide +kernel
theorem dX3_removeAt_14 : decode cX3_removeAt 14 = .ok (.iconst 1, 1) := by decide +kernel
theorem dX3_removeAt_15 : decode cX3_removeAt 15 = .ok (.iadd, 1) := by decide +kernel
theorem dX3_removeAt_16 : decode cX3_removeAt 16 = .ok (.istore_n 2, 1) := by decide +kernel
theorem dX3_removeAt_17 : decode cX3_removeAt 17 = .ok (.iload_n 2, 1) := by decide +kernel
theorem dX3_removeAt_18 : decode cX3_removeAt 18 = .ok (.aload_n 0, 1) := by decide +kernel
theorem dX3_removeAt_19 : decode cX3_removeAt 19 = .ok (.getfield 21, 3) := by decide +kernel
theorem dX3_removeAt_22 : decode cX3_removeAt 22 = .ok (.if_icmp .ge 23, 3) := by decide +kernel
theorem dX3_removeAt_25 : decode cX3_removeAt 25 = .ok (.aload_n 0, 1) := by decide +kernel
theorem dX3_removeAt_26 : decode cX3_removeAt 26 = .ok (.getfield 15, 3) := by decide +kernel
theorem dX3_removeAt_29 : decode cX3_removeAt 29 = .ok (.iload_n 2, 1) := by decide +kernel
theorem dX3_removeAt_30 : decode cX3_removeAt 30 = .ok (.iconst 1, 1) := by decide +kernel
theorem dX3_removeAt_31 : decode cX3_removeAt 31 = .ok (.isub, 1) := by decide +kernel
theorem dX3_removeAt_32 : decode cX3_removeAt 32 = .ok (.aload_n 0, 1) := by decide +kernel
theorem dX3_removeAt_33 : decode cX3_removeAt 33 = .ok (.getfield 15, 3) := by decide +kernel
theorem dX3_removeAt_36 : decode cX3_removeAt 36 = .ok (.iload_n 2, 1) := by decide +kernel
theorem dX3_removeAt_37 : decode cX3_removeAt 37 = .ok (.aaload, 1) := by decide +kernel
theorem dX3_removeAt_38 : decode cX3_removeAt 38 = .ok (.aastore, 1) := by decide +kernel
theorem dX3_removeAt_39 : decode cX3_removeAt 39 = .ok (.iinc 2 1, 3) := by decide +kernel
theorem dX3_removeAt_42 : decode cX3_removeAt 42 = .ok (.goto (-25), 3) := by decide +kernel
theorem dX3_removeAt_45 : decode cX3_removeAt 45 = .ok (.aload_n 0, 1) := by decide +kernel
theorem dX3_removeAt_46 : decode cX3_removeAt 46 = .ok (.dup, 1) := by decide +kernel
theorem dX3_removeAt_47 : decode cX3_removeAt 47 = .ok (.getfield 21, 3) := by decide +kernel
theorem dX3_removeAt_50 : decode cX3_removeAt 50 = .ok (.iconst 1, 1) := by decide +kernel
theorem dX3_removeAt_51 : decode cX3_removeAt 51 = .ok (.isub, 1) := by decide +kernel
theorem dX3_removeAt_52 : decode cX3_removeAt 52 = .ok (.putfield 21, 3) := by decide +kernel
theorem dX3_removeAt_55 : decode cX3_removeAt 55 = .ok (.aload_n 0, 1) := by decide +kernel
theorem dX3_removeAt_56 : decode cX3_removeAt 56 = .ok (.getfield 15, 3) := by decide +kernel
theorem dX3_removeAt_59 : decode cX3_removeAt 59 = .ok (.aload_n 0, 1) := by decide +kernel
theorem dX3_removeAt_60 : decode cX3_removeAt 60 = .ok (.getfield 21, 3) := by decide +kernel
theorem dX3_removeAt_63 : decode cX3_removeAt 63 = .ok (.aconst_null, 1) := by decide +kernel
theorem dX3_removeAt_64 : decode cX3_removeAt 64 = .ok (.aastore, 1) := by decide +kernel
theorem dX3_removeAt_65 : decode cX3_removeAt 65 = .ok (.return_, 1) := by decide +kernel
theorem dX3_clear_0 : decode cX3_clear 0 = .ok (.iconst 0, 1) := by decide +kernel
theorem dX3_clear_1 : decode cX3_clear 1 = .ok (.istore_n 1, 1) := by decide +kernel
theorem dX3_clear_2 : decode cX3_clear 2 = .ok (.iload_n 1, 1) := by decide +kernel
theorem dX3_clear_3 : decode cX3_clear 3 = .ok (.aload_n 0, 1) := by decide +kernel
theorem dX3_clear_4 : decode cX3_clear 4 = .ok (.getfield 21, 3) := by decide +kernel
theorem dX3_clear_7 : decode cX3_clear 7 = .ok (.if_icmp .ge 16, 3) := by decide +kernel
theorem dX3_clear_10 : decode cX3_clear 10 = .ok (.aload_n 0, 1) := by decide +kernel
theorem dX3_clear_11 : decode cX3_clear 11 = .ok (.getfield 15, 3) := by decide +kernel
theorem dX3_clear_14 : decode cX3_clear 14 = .ok (.iload_n 1, 1) := by decide +kernel
theorem dX3_clear_15 : decode cX3_clear 15 = .ok (.aconst_null, 1) := by decide +kernel
theorem dX3_clear_16 : decode cX3_clear 16 = .ok (.aastore, 1) := by decide +kernel
theorem dX3_clear_17 : decode cX3_clear 17 = .ok (.iinc 1 1, 3) := by decide +kernel
theorem dX3_clear_20 : decode cX3_clear 20 = .ok (.goto (-18), 3) := by decide +kernel
theorem dX3_clear_23 : decode cX3_clear 23 = .ok (.aload_n 0, 1) := by decide +kernel
theorem dX3_clear_24 : decode cX3_clear 24 = .ok (.iconst 0, 1) := by decide +kernel
theorem dX3_clear_25 : decode cX3_clear 25 = .ok (.putfield 21, 3) := by decide +kernel
theorem dX3_clear_28 : decode cX3_clear 28 = .ok (.return_, 1) := by decide +kernel
theorem dX4_init_0 : decode cX4_init 0 = .ok (.aload_n 0, 1) := by decide +kernel
theorem dX4_init_1 : decode cX4_init 1 = .ok (.invokespecial 3, 3) := by decide +kernel
theorem dX4_init_4 : decode cX4_init 4 = .ok (.aload_n 0, 1) := by decide +kernel
theorem dX4_init_5 : decode cX4_init 5 = .ok (.new 9, 3) := by decide +kernel
theorem dX4_init_8 : decode cX4_init 8 = .ok (.dup, 1) := by decide +kernel
theorem dX4_init_9 : decode cX4_init 9 = .ok (.sipush 512, 3) := by decide +kernel
theorem dX4_init_12 : decode cX4_init 12 = .ok (.invokespecial 11, 3) := by decide +kernel
theorem dX4_init_15 : decode cX4_init 15 = .ok (.putfield 14, 3) := by decide +kernel
theorem dX4_init_18 : decode cX4_init 18 = .ok (.aload_n 0, 1) := by decide +kernel
theorem dX4_init_19 : decode cX4_init 19 = .ok (.bipush 8, 2) := by decide +kernel
theorem dX4_init_21 : decode cX4_init 21 = .ok (.anewarray 20, 3) := by decide +kernel
theorem dX4_init_24 : decode cX4_init 24 = .ok (.putfield 22, 3) := by decide +kernel
theorem dX4_init_27 : decode cX4_init 27 = .ok (.aload_n 0, 1) := by decide +kernel
theorem dX4_init_28 : decode cX4_init 28 = .ok (.bipush 8, 2) := by decide +kernel
theorem dX4_init_30 : decode cX4_init 30 = .ok (.anewarray 20, 3) := by decide +kernel
theorem dX4_init_33 : decode cX4_init 33 = .ok (.putfield 26, 3) := by decide +kernel
theorem dX4_init_36 : decode cX4_init 36 = .ok (.aload_n 0, 1) := by decide +kernel
theorem dX4_init_37 : decode cX4_init 37 = .ok (.iconst 1, 1) := by decide +kernel
theorem dX4_init_38 : decode cX4_init 38 = .ok (.putfield 29, 3) := by decide +kernel
theorem dX4_init_41 : decode cX4_init 41 = .ok (.aload_n 0, 1) := by decide +kernel
theorem dX4_init_42 : decode cX4_init 42 = .ok (.iconst 1, 1) := by decide +kernel
theorem dX4_init_43 : decode cX4_init 43 = .ok (.putfield 33, 3) := by decide +kernel
theorem dX4_init_46 : decode cX4_init 46 = .ok (.aload_n 0, 1) := by decide +kernel
theorem dX4_init_47 : decode cX4_init 47 = .ok (.iload_n 1, 1) := by decide +kernel
theorem dX4_init_48 : decode cX4_init 48 = .ok (.putfield 36, 3) := by decide +kernel
theorem dX4_init_51 : decode cX4_init 51 = .ok (.iconst 1, 1) := by decide +kernel
theorem dX4_init_52 : decode cX4_init 52 = .ok (.iload_n 2, 1) := by decide +kernel
theorem dX4_init_53 : decode cX4_init 53 = .ok (.invokestatic 40, 3) := by decide +kernel
theorem dX4_init_56 : decode cX4_init 56 = .ok (.istore_n 3, 1) := by decide +kernel
theorem dX4_init_57 : decode cX4_init 57 = .ok (.iconst 0, 1) := by decide +kernel
theorem dX4_init_58 : decode cX4_init 58 = .ok (.istore 4, 2) := by decide +kernel
theorem dX4_init_60 : decode cX4_init 60 = .ok (.iload 4, 2) := by decide +kernel
theorem dX4_init_62 : decode cX4_init 62 = .ok (.bipush 8, 2) := by decide +kernel
theorem dX4_init_64 : decode cX4_init 64 = .ok (.if_icmp .ge 100, 3) := by decide +kernel
theorem dX4_init_67 : decode cX4_init 67 = .ok (.new 20, 3) := by decide +kernel
theorem dX4_init_70 : decode cX4_init 70 = .ok (.dup, 1) := by decide +kernel
theorem dX4_init_71 : decode cX4_init 71 = .ok (.invokespecial 46, 3) := by decide +kernel
theorem dX4_init_74 : decode cX4_init 74 = .ok (.astore 5, 2) := by decide +kernel
theorem dX4_init_76 : decode cX4_init 76 = .ok (.aload 5, 2) := by decide +kernel
theorem dX4_init_78 : decode cX4_init 78 = .ok (.iload 4, 2) := by decide +kernel
theorem dX4_init_80 : decode cX4_init 80 = .ok (.iload_n 3, 1) := by decide +kernel
theorem dX4_init_81 : decode cX4_init 81 = .ok (.irem, 1) := by decide +kernel
theorem dX4_init_82 : decode cX4_init 82 = .ok (.putfield 47, 3) := by decide +kernel
theorem dX4_init_85 : decode cX4_init 85 = .ok (.aload 5, 2) := by decide +kernel
theorem dX4_init_87 : decode cX4_init 87 = .ok (.aload 5, 2) := by decide +kernel
theorem dX4_init_89 : decode cX4_init 89 = .ok (.getfield 47, 3) := by decide +kernel
theorem dX4_init_92 : decode cX4_init 92 = .ok (.iload_n 1, 1) := by decide +kernel
theorem dX4_init_93 : decode cX4_init 93 = .ok (.if_icmp .ne 7, 3) := by decide +kernel
theorem dX4_init_96 : decode cX4_init 96 = .ok (.iconst 1, 1) := by decide +kernel
theorem dX4_init_97 : decode cX4_init 97 = .ok (.goto 4, 3) := by decide +kernel
theorem dX4_init_100 : decode cX4_init 100 = .ok (.iconst 0, 1) := by decide +kernel
theorem dX4_init_101 : decode cX4_init 101 = .ok (.putfield 50, 3) := by decide +kernel
theorem dX4_init_104 : decode cX4_init 104 = .ok (.aload 5, 2) := by decide +kernel
theorem dX4_init_106 : decode cX4_init 106 = .ok (.aload 5, 2) := by decide +kernel
theorem dX4_init_108 : decode cX4_init 108 = .ok (.getfield 47, 3) := by decide +kernel
theorem dX4_init_111 : decode cX4_init 111 = .ok (.iload_n 1, 1) := by decide +kernel
theorem dX4_init_112 : decode cX4_init 112 = .ok (.if_icmp .ne 7, 3) := by decide +kernel
theorem dX4_init_115 : decode cX4_init 115 = .ok (.iconst 1, 1) := by decide +kernel
theorem dX4_init_116 : decode cX4_init 116 = .ok (.goto 4, 3) := by decide +kernel
theorem dX4_init_119 : decode cX4_init 119 = .ok (.iconst 0, 1) := by decide +kernel
theorem dX4_init_120 : decode cX4_init 120 = .ok (.putfield 53, 3) := by decide +kernel
theorem dX4_init_123 : decode cX4_init 123 = .ok (.aload_n 0, 1) := by decide +kernel
theorem dX4_init_124 : decode cX4_init 124 = .ok (.getfield 22, 3) := by decide +kernel
theorem dX4_init_127 : decode cX4_init 127 = .ok (.iload 4, 2) := by decide +kernel
theorem dX4_init_129 : decode cX4_init 129 = .ok (.aload 5, 2) := by decide +kernel
theorem dX4_init_131 : decode cX4_init 131 = .ok (.aastore, 1) := by decide +kernel
theorem dX4_init_132 : decode cX4_init 132 = .ok (.aload_n 0, 1) := by decide +kernel
theorem dX4_init_133 : decode cX4_init 133 = .ok (.getfield 26, 3) := by decide +kernel
theorem dX4_init_136 : decode cX4_init 136 = .ok (.iload 4, 2) := by decide +kernel
theorem dX4_init_138 : decode cX4_init 138 = .ok (.new 20, 3) := by decide +kernel
theorem dX4_init_141 : decode cX4_init 141 = .ok (.dup, 1) := by decide +kernel
theorem dX4_init_142 : decode cX4_init 142 = .ok (.invokespecial 46, 3) := by decide +kernel
theorem dX4_init_145 : decode cX4_init 145 = .ok (.aastore, 1) := by decide +kernel
theorem dX4_init_146 : decode cX4_init 146 = .ok (.aload_n 0, 1) := by decide +kernel
theorem dX4_init_147 : decode cX4_init 147 = .ok (.getfield 26, 3) := by decide +kernel
theorem dX4_init_150 : decode cX4_init 150 = .ok (.iload 4, 2) := by decide +kernel
theorem dX4_init_152 : decode cX4_init 152 = .ok (.aaload, 1) := by decide +kernel
theorem dX4_init_153 : decode cX4_init 153 = .ok (.aload 5, 2) := by decide +kernel
theorem dX4_init_155 : decode cX4_init 155 = .ok (.invokevirtual 56, 3) := by decide +kernel
theorem dX4_init_158 : decode cX4_init 158 = .ok (.iinc 4 1, 3) := by decide +kernel
theorem dX4_init_161 : decode cX4_init 161 = .ok (.goto (-101), 3) := by decide +kernel
theorem dX4_init_164 : decode cX4_init 164 = .ok (.return_, 1) := by decide +kernel
theorem dX4_bucketAt_0 : decode cX4_bucketAt 0 = .ok (.iload_n 1, 1) := by decide +kernel
theorem dX4_bucketAt_1 : decode cX4_bucketAt 1 = .ok (.ifCond .lt 18, 3) := by decide +kernel
theorem dX4_bucketAt_4 : decode cX4_bucketAt 4 = .ok (.iload_n 1, 1) := by decide +kernel
theorem dX4_bucketAt_5 : decode cX4_bucketAt 5 = .ok (.bipush 8, 2) := by decide +kernel
theorem dX4_bucketAt_7 : decode cX4_bucketAt 7 = .ok (.if_icmp .ge 12, 3) := by decide +kernel
theorem dX4_bucketAt_10 : decode cX4_bucketAt 10 = .ok (.aload_n 0, 1) := by decide +kernel
theorem dX4_bucketAt_11 : decode cX4_bucketAt 11 = .ok (.getfield 22, 3) := by decide +kernel
theorem dX4_bucketAt_14 : decode cX4_bucketAt 14 = .ok (.iload_n 1, 1) := by decide +kernel
theorem dX4_bucketAt_15 : decode cX4_bucketAt 15 = .ok (.aaload, 1) := by decide +kernel
theorem dX4_bucketAt_16 : decode cX4_bucketAt 16 = .ok (.goto 4, 3) := by decide +kernel
theorem dX4_bucketAt_19 : decode cX4_bucketAt 19 = .ok (.aconst_null, 1) := by decide +kernel
theorem dX4_bucketAt_20 : decode cX4_bucketAt 20 = .ok (.areturn, 1) := by decide +kernel
theorem dX4_keep_0 : decode cX4_keep 0 = .ok (.iconst 0, 1) := by decide +kernel
theorem dX4_keep_1 : decode cX4_keep 1 = .ok (.istore_n 1, 1) := by decide +kernel
theorem dX4_keep_2 : decode cX4_keep 2 = .ok (.iload_n 1, 1) := by decide +kernel
theorem dX4_keep_3 : decode cX4_keep 3 = .ok (.bipush 8, 2) := by decide +kernel
theorem dX4_keep_5 : decode cX4_keep 5 = .ok (.if_icmp .ge 24, 3) := by decide +kernel
theorem dX4_keep_8 : decode cX4_keep 8 = .ok (.aload_n 0, 1) := by decide +kernel
theorem dX4_keep_9 : decode cX4_keep 9 = .ok (.getfield 26, 3) := by decide +kernel
theorem dX4_keep_12 : decode cX4_keep 12 = .ok (.iload_n 1, 1) := by decide +kernel
theorem dX4_keep_13 : decode cX4_keep 13 = .ok (.aaload, 1) := by decide +kernel
theorem dX4_keep_14 : decode cX4_keep 14 = .ok (.aload_n 0, 1) := by decide +kernel
theorem dX4_keep_15 : decode cX4_keep 15 = .ok (.getfield 22, 3) := by decide +kernel
theorem dX4_keep_18 : decode cX4_keep 18 = .ok (.iload_n 1, 1) := by decide +kernel
theorem dX4_keep_19 : decode cX4_keep 19 = .ok (.aaload, 1) := by decide +kernel
theorem dX4_keep_20 : decode cX4_keep 20 = .ok (.invokevirtual 56, 3) := by decide +kernel
theorem dX4_keep_23 : decode cX4_keep 23 = .ok (.iinc 1 1, 3) := by decide +kernel
theorem dX4_keep_26 : decode cX4_keep 26 = .ok (.goto (-24), 3) := by decide +kernel
theorem dX4_keep_29 : decode cX4_keep 29 = .ok (.aload_n 0, 1) := by decide +kernel
theorem dX4_keep_30 : decode cX4_keep 30 = .ok (.iconst 1, 1) := by decide +kernel
theorem dX4_keep_31 : decode cX4_keep 31 = .ok (.putfield 33, 3) := by decide +kernel
theorem dX4_keep_34 : decode cX4_keep 34 = .ok (.return_, 1) := by decide +kernel
theorem dX4_restore_0 : decode cX4_restore 0 = .ok (.iconst 0, 1) := by decide +kernel
theorem dX4_restore_1 : decode cX4_restore 1 = .ok (.istore_n 1, 1) := by decide +kernel
theorem dX4_restore_2 : decode cX4_restore 2 = .ok (.iload_n 1, 1) := by decide +kernel
theorem dX4_restore_3 : decode cX4_restore 3 = .ok (.bipush 8, 2) := by decide +kernel
theorem dX4_restore_5 : decode cX4_restore 5 = .ok (.if_icmp .ge 24, 3) := by decide +kernel
theorem dX4_restore_8 : decode cX4_restore 8 = .ok (.aload_n 0, 1) := by decide +kernel
theorem dX4_restore_9 : decode cX4_restore 9 = .ok (.getfield 22, 3) := by decide +kernel
theorem dX4_restore_12 : decode cX4_restore 12 = .ok (.iload_n 1, 1) := by decide +kernel
theorem dX4_restore_13 : decode cX4_restore 13 = .ok (.aaload, 1) := by decide +kernel
theorem dX4_restore_14 : decode cX4_restore 14 = .ok (.aload_n 0, 1) := by decide +kernel
theorem dX4_restore_15 : decode cX4_restore 15 = .ok (.getfield 26, 3) := by decide +kernel
theorem dX4_restore_18 : decode cX4_restore 18 = .ok (.iload_n 1, 1) := by decide +kernel
theorem dX4_restore_19 : decode cX4_restore 19 = .ok (.aaload, 1) := by decide +kernel
theorem dX4_restore_20 : decode cX4_restore 20 = .ok (.invokevirtual 56, 3) := by decide +kernel
theorem dX4_restore_23 : decode cX4_restore 23 = .ok (.iinc 1 1, 3) := by decide +kernel
theorem dX4_restore_26 : decode cX4_restore 26 = .ok (.goto (-24), 3) := by decide +kernel
theorem dX4_restore_29 : decode cX4_restore 29 = .ok (.aload_n 0, 1) := by decide +kernel
theorem dX4_restore_30 : decode cX4_restore 30 = .ok (.iconst 1, 1) := by decide +kernel
theorem dX4_restore_31 : decode cX4_restore 31 = .ok (.putfield 33, 3) := by decide +kernel
theorem dX4_restore_34 : decode cX4_restore 34 = .ok (.return_, 1) := by decide +kernel
theorem dX4_recordsInAll_0 : decode cX4_recordsInAll 0 = .ok (.iconst 0, 1) := by decide +kernel
theorem dX4_recordsInAll_1 : decode cX4_recordsInAll 1 = .ok (.istore_n 1, 1) := by decide +kernel
theorem dX4_recordsInAll_2 : decode cX4_recordsInAll 2 = .ok (.iconst 0, 1) := by decide +kernel
theorem dX4_recordsInAll_3 : decode cX4_recordsInAll 3 = .ok (.istore_n 2, 1) := by decide +kernel
theorem dX4_recordsInAll_4 : decode cX4_recordsInAll 4 = .ok (.iload_n 2, 1) := by decide +kernel
theorem dX4_recordsInAll_5 : decode cX4_recordsInAll 5 = .ok (.bipush 8, 2) := by decide +kernel
theorem dX4_recordsInAll_7 : decode cX4_recordsInAll 7 = .ok (.if_icmp .ge 21, 3) := by decide +kernel
theorem dX4_recordsInAll_10 : decode cX4_recordsInAll 10 = .ok (.iload_n 1, 1) := by decide +kernel
theorem dX4_recordsInAll_11 : decode cX4_recordsInAll 11 = .ok (.aload_n 0, 1) := by decide +kernel
theorem dX4_recordsInAll_12 : decode cX4_recordsInAll 12 = .ok (.getfield 22, 3) := by decide +kernel
theorem dX4_recordsInAll_15 : decode cX4_recordsInAll 15 = .ok (.iload_n 2, 1) := by decide +kernel
theorem dX4_recordsInAll_16 : decode cX4_recordsInAll 16 = .ok (.aaload, 1) := by decide +kernel
theorem dX4_recordsInAll_17 : decode cX4_recordsInAll 17 = .ok (.getfield 60, 3) := by decide +kernel
theorem dX4_recordsInAll_20 : decode cX4_recordsInAll 20 = .ok (.iadd, 1) := by decide +kernel
theorem dX4_recordsInAll_21 : decode cX4_recordsInAll 21 = .ok (.istore_n 1, 1) := by decide +kernel
theorem dX4_recordsInAll_22 : decode cX4_recordsInAll 22 = .ok (.iinc 2 1, 3) := by decide +kernel
theorem dX4_recordsInAll_25 : decode cX4_recordsInAll 25 = .ok (.goto (-21), 3) := by decide +kernel
theorem dX4_recordsInAll_28 : decode cX4_recordsInAll 28 = .ok (.iload_n 1, 1) := by decide +kernel
theorem dX4_recordsInAll_29 : decode cX4_recordsInAll 29 = .ok (.ireturn, 1) := by decide +kernel
theorem dJ9_max_7cf53_0 : decode cJ9_max_7cf53 0 = .ok (.iload_n 0, 1) := by decide +kernel
theorem dJ9_max_7cf53_1 : decode cJ9_max_7cf53 1 = .ok (.iload_n 1, 1) := by decide +kernel
theorem dJ9_max_7cf53_2 : decode cJ9_max_7cf53 2 = .ok (.if_icmp .lt 7, 3) := by decide +kernel
theorem dJ9_max_7cf53_5 : decode cJ9_max_7cf53 5 = .ok (.iload_n 0, 1) := by decide +kernel
theorem dJ9_max_7cf53_6 : decode cJ9_max_7cf53 6 = .ok (.goto 4, 3) := by decide +kernel
theorem dJ9_max_7cf53_9 : decode cJ9_max_7cf53 9 = .ok (.iload_n 1, 1) := by decide +kernel
theorem dJ9_max_7cf53_10 : decode cJ9_max_7cf53 10 = .ok (.ireturn, 1) := by decide +kernel
theorem dJ7_fill_d0a16_0 : decode cJ7_fill_d0a16 0 = .ok (.iconst 0, 1) := by decide +kernel
theorem dJ7_fill_d0a16_1 : decode cJ7_fill_d0a16 1 = .ok (.istore_n 3, 1) := by decide +kernel
theorem dJ7_fill_d0a16_2 : decode cJ7_fill_d0a16 2 = .ok (.aload_n 0, 1) := by decide +kernel
theorem dJ7_fill_d0a16_3 : decode cJ7_fill_d0a16 3 = .ok (.arraylength, 1) := by decide +kernel
theorem dJ7_fill_d0a16_4 : decode cJ7_fill_d0a16 4 = .ok (.istore 4, 2) := by decide +kernel
theorem dJ7_fill_d0a16_6 : decode cJ7_fill_d0a16 6 = .ok (.iload_n 3, 1) := by decide +kernel
theorem dJ7_fill_d0a16_7 : decode cJ7_fill_d0a16 7 = .ok (.iload 4, 2) := by decide +kernel
theorem dJ7_fill_d0a16_9 : decode cJ7_fill_d0a16 9 = .ok (.if_icmp .ge 13, 3) := by decide +kernel
theorem dJ7_fill_d0a16_12 : decode cJ7_fill_d0a16 12 = .ok (.aload_n 0, 1) := by decide +kernel
theorem dJ7_fill_d0a16_13 : decode cJ7_fill_d0a16 13 = .ok (.iload_n 3, 1) := by decide +kernel
theorem dJ7_fill_d0a16_14 : decode cJ7_fill_d0a16 14 = .ok (.lload_n 1, 1) := by decide +kernel
theorem dJ7_fill_d0a16_15 : decode cJ7_fill_d0a16 15 = .ok (.lastore, 1) := by decide +kernel
theorem dJ7_fill_d0a16_16 : decode cJ7_fill_d0a16 16 = .ok (.iinc 3 1, 3) := by decide +kernel
theorem dJ7_fill_d0a16_19 : decode cJ7_fill_d0a16 19 = .ok (.goto (-13), 3) := by decide +kernel
theorem dJ7_fill_d0a16_22 : decode cJ7_fill_d0a16 22 = .ok (.return_, 1) := by decide +kernel
theorem dJ7_fill_53178_0 : decode cJ7_fill_53178 0 = .ok (.iconst 0, 1) := by decide +kernel
theorem dJ7_fill_53178_1 : decode cJ7_fill_53178 1 = .ok (.istore_n 2, 1) := by decide +kernel
theorem dJ7_fill_53178_2 : decode cJ7_fill_53178 2 = .ok (.aload_n 0, 1) := by decide +kernel
theorem dJ7_fill_53178_3 : decode cJ7_fill_53178 3 = .ok (.arraylength, 1) := by decide +kernel
theorem dJ7_fill_53178_4 : decode cJ7_fill_53178 4 = .ok (.istore_n 3, 1) := by decide +kernel
theorem dJ7_fill_53178_5 : decode cJ7_fill_53178 5 = .ok (.iload_n 2, 1) := by decide +kernel
theorem dJ7_fill_53178_6 : decode cJ7_fill_53178 6 = .ok (.iload_n 3, 1) := by decide +kernel
theorem dJ7_fill_53178_7 : decode cJ7_fill_53178 7 = .ok (.if_icmp .ge 13, 3) := by decide +kernel
theorem dJ7_fill_53178_10 : decode cJ7_fill_53178 10 = .ok (.aload_n 0, 1) := by decide +kernel
theorem dJ7_fill_53178_11 : decode cJ7_fill_53178 11 = .ok (.iload_n 2, 1) := by decide +kernel
theorem dJ7_fill_53178_12 : decode cJ7_fill_53178 12 = .ok (.iload_n 1, 1) := by decide +kernel
theorem dJ7_fill_53178_13 : decode cJ7_fill_53178 13 = .ok (.iastore, 1) := by decide +kernel
theorem dJ7_fill_53178_14 : decode cJ7_fill_53178 14 = .ok (.iinc 2 1, 3) := by decide +kernel
theorem dJ7_fill_53178_17 : decode cJ7_fill_53178 17 = .ok (.goto (-12), 3) := by decide +kernel
theorem dJ7_fill_53178_20 : decode cJ7_fill_53178 20 = .ok (.return_, 1) := by decide +kernel
end
section
theorem dX5_init_0 : decode cX5_init 0 = .ok (.aload_n 0, 1) := by decide +kernel
theorem dX5_init_1 : decode cX5_init 1 = .ok (.invokespecial 3, 3) := by decide +kernel
theorem dX5_init_4 : decode cX5_init 4 = .ok (.iload_n 1, 1) := by decide +kernel
theorem dX5_init_5 : decode cX5_init 5 = .ok (.iconst 2, 1) := by decide +kernel
theorem dX5_init_6 : decode cX5_init 6 = .ok (.if_icmp .lt 12, 3) := by decide +kernel
theorem dX5_init_9 : decode cX5_init 9 = .ok (.iload_n 1, 1) := by decide +kernel
theorem dX5_init_10 : decode cX5_init 10 = .ok (.iconst 4, 1) := by decide +kernel
theorem dX5_init_11 : decode cX5_init 11 = .ok (.if_icmp .gt 7, 3) := by decide +kernel
theorem dX5_init_14 : decode cX5_init 14 = .ok (.iload_n 1, 1) := by decide +kernel
theorem dX5_init_15 : decode cX5_init 15 = .ok (.goto 4, 3) := by decide +kernel
theorem dX5_init_18 : decode cX5_init 18 = .ok (.iconst 3, 1) := by decide +kernel
theorem dX5_init_19 : decode cX5_init 19 = .ok (.istore_n 3, 1) := by decide +kernel
theorem dX5_init_20 : decode cX5_init 20 = .ok (.aload_n 0, 1) := by decide +kernel
theorem dX5_init_21 : decode cX5_init 21 = .ok (.iload_n 2, 1) := by decide +kernel
theorem dX5_init_22 : decode cX5_init 22 = .ok (.iconst 1, 1) := by decide +kernel
theorem dX5_init_23 : decode cX5_init 23 = .ok (.if_icmp .lt 14, 3) := by decide +kernel
theorem dX5_init_26 : decode cX5_init 26 = .ok (.iload_n 2, 1) := by decide +kernel
theorem dX5_init_27 : decode cX5_init 27 = .ok (.sipush 1000, 3) := by decide +kernel
theorem dX5_init_30 : decode cX5_init 30 = .ok (.if_icmp .gt 7, 3) := by decide +kernel
theorem dX5_init_33 : decode cX5_init 33 = .ok (.iload_n 2, 1) := by decide +kernel
theorem dX5_init_34 : decode cX5_init 34 = .ok (.goto 5, 3) := by decide +kernel
theorem dX5_init_37 : decode cX5_init 37 = .ok (.bipush 50, 2) := by decide +kernel
theorem dX5_init_39 : decode cX5_init 39 = .ok (.putfield 9, 3) := by decide +kernel
theorem dX5_init_42 : decode cX5_init 42 = .ok (.aload_n 0, 1) := by decide +kernel
theorem dX5_init_43 : decode cX5_init 43 = .ok (.iload_n 3, 1) := by decide +kernel
theorem dX5_init_44 : decode cX5_init 44 = .ok (.anewarray 13, 3) := by decide +kernel
theorem dX5_init_47 : decode cX5_init 47 = .ok (.putfield 15, 3) := by decide +kernel
theorem dX5_init_50 : decode cX5_init 50 = .ok (.iconst 0, 1) := by decide +kernel
theorem dX5_init_51 : decode cX5_init 51 = .ok (.istore 4, 2) := by decide +kernel
theorem dX5_init_53 : decode cX5_init 53 = .ok (.iload 4, 2) := by decide +kernel
theorem dX5_init_55 : decode cX5_init 55 = .ok (.iload_n 3, 1) := by decide +kernel
theorem dX5_init_56 : decode cX5_init 56 = .ok (.if_icmp .ge 26, 3) := by decide +kernel
theorem dX5_init_59 : decode cX5_init 59 = .ok (.aload_n 0, 1) := by decide +kernel
theorem dX5_init_60 : decode cX5_init 60 = .ok (.getfield 15, 3) := by decide +kernel
theorem dX5_init_63 : decode cX5_init 63 = .ok (.iload 4, 2) := by decide +kernel
theorem dX5_init_65 : decode cX5_init 65 = .ok (.new 13, 3) := by decide +kernel
theorem dX5_init_68 : decode cX5_init 68 = .ok (.dup, 1) := by decide +kernel
theorem dX5_init_69 : decode cX5_init 69 = .ok (.iload 4, 2) := by decide +kernel
theorem dX5_init_71 : decode cX5_init 71 = .ok (.iload_n 3, 1) := by decide +kernel
theorem dX5_init_72 : decode cX5_init 72 = .ok (.invokespecial 19, 3) := by decide +kernel
theorem dX5_init_75 : decode cX5_init 75 = .ok (.aastore, 1) := by decide +kernel
theorem dX5_init_76 : decode cX5_init 76 = .ok (.iinc 4 1, 3) := by decide +kernel
theorem dX5_init_79 : decode cX5_init 79 = .ok (.goto (-26), 3) := by decide +kernel
theorem dX5_init_82 : decode cX5_init 82 = .ok (.aload_n 0, 1) := by decide +kernel
theorem dX5_init_83 : decode cX5_init 83 = .ok (.bipush 6, 2) := by decide +kernel
theorem dX5_init_85 : decode cX5_init 85 = .ok (.anewarray 22, 3) := by decide +kernel
theorem dX5_init_88 : decode cX5_init 88 = .ok (.putfield 24, 3) := by decide +kernel
theorem dX5_init_91 : decode cX5_init 91 = .ok (.iconst 0, 1) := by decide +kernel
theorem dX5_init_92 : decode cX5_init 92 = .ok (.istore 4, 2) := by decide +kernel
theorem dX5_init_94 : decode cX5_init 94 = .ok (.iload 4, 2) := by decide +kernel
theorem dX5_init_96 : decode cX5_init 96 = .ok (.bipush 6, 2) := by decide +kernel
theorem dX5_init_98 : decode cX5_init 98 = .ok (.if_icmp .ge 26, 3) := by decide +kernel
theorem dX5_init_101 : decode cX5_init 101 = .ok (.aload_n 0, 1) := by decide +kernel
theorem dX5_init_102 : decode cX5_init 102 = .ok (.getfield 24, 3) := by decide +kernel
theorem dX5_init_105 : decode cX5_init 105 = .ok (.iload 4, 2) := by decide +kernel
theorem dX5_init_107 : decode cX5_init 107 = .ok (.new 22, 3) := by decide +kernel
theorem dX5_init_110 : decode cX5_init 110 = .ok (.dup, 1) := by decide +kernel
theorem dX5_init_111 : decode cX5_init 111 = .ok (.iload 4, 2) := by decide +kernel
theorem dX5_init_113 : decode cX5_init 113 = .ok (.iload_n 3, 1) := by decide +kernel
theorem dX5_init_114 : decode cX5_init 114 = .ok (.invokespecial 28, 3) := by decide +kernel
theorem dX5_init_117 : decode cX5_init 117 = .ok (.aastore, 1) := by decide +kernel
theorem dX5_init_118 : decode cX5_init 118 = .ok (.iinc 4 1, 3) := by decide +kernel
theorem dX5_init_121 : decode cX5_init 121 = .ok (.goto (-27), 3) := by decide +kernel
theorem dX5_init_124 : decode cX5_init 124 = .ok (.aload_n 0, 1) := by decide +kernel
theorem dX5_init_125 : decode cX5_init 125 = .ok (.new 29, 3) := by decide +kernel
theorem dX5_init_128 : decode cX5_init 128 = .ok (.dup, 1) := by decide +kernel
theorem dX5_init_129 : decode cX5_init 129 = .ok (.sipush 400, 3) := by decide +kernel
theorem dX5_init_132 : decode cX5_init 132 = .ok (.invokespecial 31, 3) := by decide +kernel
theorem dX5_init_135 : decode cX5_init 135 = .ok (.putfield 34, 3) := by decide +kernel
theorem dX5_init_138 : decode cX5_init 138 = .ok (.return_, 1) := by decide +kernel
theorem dX5_open_0 : decode cX5_open 0 = .ok (.aload_n 0, 1) := by decide +kernel
theorem dX5_open_1 : decode cX5_open 1 = .ok (.iload_n 1, 1) := by decide +kernel
theorem dX5_open_2 : decode cX5_open 2 = .ok (.invokevirtual 38, 3) := by decide +kernel
theorem dX5_open_5 : decode cX5_open 5 = .ok (.astore_n 2, 1) := by decide +kernel
theorem dX5_open_6 : decode cX5_open 6 = .ok (.aload_n 2, 1) := by decide +kernel
theorem dX5_open_7 : decode cX5_open 7 = .ok (.ifnonnull 5, 3) := by decide +kernel
theorem dX5_open_10 : decode cX5_open 10 = .ok (.iconst (-1), 1) := by decide +kernel
theorem dX5_open_11 : decode cX5_open 11 = .ok (.ireturn, 1) := by decide +kernel
theorem dX5_open_12 : decode cX5_open 12 = .ok (.aload_n 0, 1) := by decide +kernel
theorem dX5_open_13 : decode cX5_open 13 = .ok (.dup, 1) := by decide +kernel
theorem dX5_open_14 : decode cX5_open 14 = .ok (.getfield 42, 3) := by decide +kernel
theorem dX5_open_17 : decode cX5_open 17 = .ok (.iconst 1, 1) := by decide +kernel
theorem dX5_open_18 : decode cX5_open 18 = .ok (.iadd, 1) := by decide +kernel
theorem dX5_open_19 : decode cX5_open 19 = .ok (.putfield 42, 3) := by decide +kernel
theorem dX5_open_22 : decode cX5_open 22 = .ok (.aload_n 2, 1) := by decide +kernel
theorem dX5_open_23 : decode cX5_open 23 = .ok (.aload_n 0, 1) := by decide +kernel
theorem dX5_open_24 : decode cX5_open 24 = .ok (.getfield 42, 3) := by decide +kernel
theorem dX5_open_27 : decode cX5_open 27 = .ok (.putfield 45, 3) := by decide +kernel
theorem dX5_open_30 : decode cX5_open 30 = .ok (.aload_n 2, 1) := by decide +kernel
theorem dX5_open_31 : decode cX5_open 31 = .ok (.iconst 0, 1) := by decide +kernel
theorem dX5_open_32 : decode cX5_open 32 = .ok (.putfield 48, 3) := by decide +kernel
theorem dX5_open_35 : decode cX5_open 35 = .ok (.aload_n 2, 1) := by decide +kernel
theorem dX5_open_36 : decode cX5_open 36 = .ok (.aload_n 0, 1) := by decide +kernel
theorem dX5_open_37 : decode cX5_open 37 = .ok (.getfield 51, 3) := by decide +kernel
theorem dX5_open_40 : decode cX5_open 40 = .ok (.aload_n 0, 1) := by decide +kernel
theorem dX5_open_41 : decode cX5_open 41 = .ok (.getfield 9, 3) := by decide +kernel
theorem dX5_open_44 : decode cX5_open 44 = .ok (.iadd, 1) := by decide +kernel
theorem dX5_open_45 : decode cX5_open 45 = .ok (.putfield 54, 3) := by decide +kernel
theorem dX5_open_48 : decode cX5_open 48 = .ok (.aload_n 2, 1) := by decide +kernel
theorem dX5_open_49 : decode cX5_open 49 = .ok (.getfield 45, 3) := by decide +kernel
theorem dX5_open_52 : decode cX5_open 52 = .ok (.ireturn, 1) := by decide +kernel
theorem dX5_renew_0 : decode cX5_renew 0 = .ok (.aload_n 0, 1) := by decide +kernel
theorem dX5_renew_1 : decode cX5_renew 1 = .ok (.iload_n 1, 1) := by decide +kernel
theorem dX5_renew_2 : decode cX5_renew 2 = .ok (.invokevirtual 38, 3) := by decide +kernel
theorem dX5_renew_5 : decode cX5_renew 5 = .ok (.astore_n 2, 1) := by decide +kernel
theorem dX5_renew_6 : decode cX5_renew 6 = .ok (.aload_n 2, 1) := by decide +kernel
theorem dX5_renew_7 : decode cX5_renew 7 = .ok (.ifnonnull 5, 3) := by decide +kernel
theorem dX5_renew_10 : decode cX5_renew 10 = .ok (.iconst (-1), 1) := by decide +kernel
theorem dX5_renew_11 : decode cX5_renew 11 = .ok (.ireturn, 1) := by decide +kernel
theorem dX5_renew_12 : decode cX5_renew 12 = .ok (.aload_n 0, 1) := by decide +kernel
theorem dX5_renew_13 : decode cX5_renew 13 = .ok (.iload_n 1, 1) := by decide +kernel
theorem dX5_renew_14 : decode cX5_renew 14 = .ok (.aload_n 2, 1) := by decide +kernel
theorem dX5_renew_15 : decode cX5_renew 15 = .ok (.getfield 45, 3) := by decide +kernel
theorem dX5_renew_18 : decode cX5_renew 18 = .ok (.invokevirtual 57, 3) := by decide +kernel
theorem dX5_renew_21 : decode cX5_renew 21 = .ok (.ifCond .ne 6, 3) := by decide +kernel
theorem dX5_renew_24 : decode cX5_renew 24 = .ok (.bipush (-3), 2) := by decide +kernel
theorem dX5_renew_26 : decode cX5_renew 26 = .ok (.ireturn, 1) := by decide +kernel
theorem dX5_renew_27 : decode cX5_renew 27 = .ok (.aload_n 2, 1) := by decide +kernel
theorem dX5_renew_28 : decode cX5_renew 28 = .ok (.aload_n 0, 1) := by decide +kernel
theorem dX5_renew_29 : decode cX5_renew 29 = .ok (.getfield 51, 3) := by decide +kernel
theorem dX5_renew_32 : decode cX5_renew 32 = .ok (.aload_n 0, 1) := by decide +kernel
theorem dX5_renew_33 : decode cX5_renew 33 = .ok (.getfield 9, 3) := by decide +kernel
theorem dX5_renew_36 : decode cX5_renew 36 = .ok (.iadd, 1) := by decide +kernel
theorem dX5_renew_37 : decode cX5_renew 37 = .ok (.putfield 54, 3) := by decide +kernel
theorem dX5_renew_40 : decode cX5_renew 40 = .ok (.aload_n 2, 1) := by decide +kernel
theorem dX5_renew_41 : decode cX5_renew 41 = .ok (.getfield 54, 3) := by decide +kernel
theorem dX5_renew_44 : decode cX5_renew 44 = .ok (.ireturn, 1) := by decide +kernel
theorem dX5_call_0 : decode cX5_call 0 = .ok (.aload_n 0, 1) := by decide +kernel
theorem dX5_call_1 : decode cX5_call 1 = .ok (.iload_n 1, 1) := by decide +kernel
theorem dX5_call_2 : decode cX5_call 2 = .ok (.invokevirtual 38, 3) := by decide +kernel
theorem dX5_call_5 : decode cX5_call 5 = .ok (.astore 8, 2) := by decide +kernel
theorem dX5_call_7 : decode cX5_call 7 = .ok (.aload 8, 2) := by decide +kernel
theorem dX5_call_9 : decode cX5_call 9 = .ok (.ifnull 22, 3) := by decide +kernel
theorem dX5_call_12 : decode cX5_call 12 = .ok (.iload_n 2, 1) := by decide +kernel
theorem dX5_call_13 : decode cX5_call 13 = .ok (.ifCond .lt 18, 3) := by decide +kernel
theorem dX5_call_16 : decode cX5_call 16 = .ok (.iload_n 2, 1) := by decide +kernel
theorem dX5_call_17 : decode cX5_call 17 = .ok (.bipush 32, 2) := by decide +kernel
theorem dX5_call_19 : decode cX5_call 19 = .ok (.if_icmp .ge 12, 3) := by decide +kernel
theorem dX5_call_22 : decode cX5_call 22 = .ok (.iload_n 3, 1) := by decide +kernel
theorem dX5_call_23 : decode cX5_call 23 = .ok (.ifCond .lt 8, 3) := by decide +kernel
theorem dX5_call_26 : decode cX5_call 26 = .ok (.iload_n 3, 1) := by decide +kernel
theorem dX5_call_27 : decode cX5_call 27 = .ok (.iconst 3, 1) := by decide +kernel
theorem dX5_call_28 : decode cX5_call 28 = .ok (.if_icmp .le 5, 3) := by decide +kernel
theorem dX5_call_31 : decode cX5_call 31 = .ok (.iconst (-1), 1) := by decide +kernel
theorem dX5_call_32 : decode cX5_call 32 = .ok (.ireturn, 1) := by decide +kernel
theorem dX5_call_33 : decode cX5_call 33 = .ok (.aload 8, 2) := by decide +kernel
theorem dX5_call_35 : decode cX5_call 35 = .ok (.getfield 45, 3) := by decide +kernel
theorem dX5_call_38 : decode cX5_call 38 = .ok (.ifCond .ne 6, 3) := by decide +kernel
theorem dX5_call_41 : decode cX5_call 41 = .ok (.bipush (-3), 2) := by decide +kernel
theorem dX5_call_43 : decode cX5_call 43 = .ok (.ireturn, 1) := by decide +kernel
theorem dX5_call_44 : decode cX5_call 44 = .ok (.aload 8, 2) := by decide +kernel
theorem dX5_call_46 : decode cX5_call 46 = .ok (.getfield 48, 3) := by decide +kernel
theorem dX5_call_49 : decode cX5_call 49 = .ok (.bipush 60, 2) := by decide +kernel
theorem dX5_call_51 : decode cX5_call 51 = .ok (.if_icmp .ge 12, 3) := by decide +kernel
theorem dX5_call_54 : decode cX5_call 54 = .ok (.aload 8, 2) := by decide +kernel
theorem dX5_call_56 : decode cX5_call 56 = .ok (.invokevirtual 61, 3) := by decide +kernel
theorem dX5_call_59 : decode cX5_call 59 = .ok (.iconst 4, 1) := by decide +kernel
theorem dX5_call_60 : decode cX5_call 60 = .ok (.if_icmp .lt 6, 3) := by decide +kernel
theorem dX5_call_63 : decode cX5_call 63 = .ok (.bipush (-2), 2) := by decide +kernel
theorem dX5_call_65 : decode cX5_call 65 = .ok (.ireturn, 1) := by decide +kernel
theorem dX5_call_66 : decode cX5_call 66 = .ok (.aload 8, 2) := by decide +kernel
theorem dX5_call_68 : decode cX5_call 68 = .ok (.iload_n 2, 1) := by decide +kernel
theorem dX5_call_69 : decode cX5_call 69 = .ok (.iload_n 3, 1) := by decide +kernel
theorem dX5_call_70 : decode cX5_call 70 = .ok (.lload 4, 2) := by decide +kernel
theorem dX5_call_72 : decode cX5_call 72 = .ok (.lload 6, 2) := by decide +kernel
theorem dX5_call_74 : decode cX5_call 74 = .ok (.invokevirtual 65, 3) := by decide +kernel
theorem dX5_call_77 : decode cX5_call 77 = .ok (.istore 9, 2) := by decide +kernel
theorem dX5_call_79 : decode cX5_call 79 = .ok (.aload_n 0, 1) := by decide +kernel
theorem dX5_call_80 : decode cX5_call 80 = .ok (.aload 8, 2) := by decide +kernel
theorem dX5_call_82 : decode cX5_call 82 = .ok (.iload 9, 2) := by decide +kernel
theorem dX5_call_84 : decode cX5_call 84 = .ok (.invokestatic 69, 3) := by decide +kernel
theorem dX5_call_87 : decode cX5_call 87 = .ok (.invokevirtual 73, 3) := by decide +kernel
theorem dX5_call_90 : decode cX5_call 90 = .ok (.iload 9, 2) := by decide +kernel
theorem dX5_call_92 : decode cX5_call 92 = .ok (.ireturn, 1) := by decide +kernel
theorem dX5_retry_0 : decode cX5_retry 0 = .ok (.aload_n 0, 1) := by decide +kernel
theorem dX5_retry_1 : decode cX5_retry 1 = .ok (.iload_n 1, 1) := by decide +kernel
theorem dX5_retry_2 : decode cX5_retry 2 = .ok (.invokevirtual 38, 3) := by decide +kernel
theorem dX5_retry_5 : decode cX5_retry 5 = .ok (.astore_n 3, 1) := by decide +kernel
theorem dX5_retry_6 : decode cX5_retry 6 = .ok (.aload_n 3, 1) := by decide +kernel
theorem dX5_retry_7 : decode cX5_retry 7 = .ok (.ifnull 11, 3) := by decide +kernel
theorem dX5_retry_10 : decode cX5_retry 10 = .ok (.aload_n 3, 1) := by decide +kernel
theorem dX5_retry_11 : decode cX5_retry 11 = .ok (.iload_n 2, 1) := by decide +kernel
theorem dX5_retry_12 : decode cX5_retry 12 = .ok (.invokevirtual 77, 3) := by decide +kernel
theorem dX5_retry_15 : decode cX5_retry 15 = .ok (.ifCond .ne 5, 3) := by decide +kernel
theorem dX5_retry_18 : decode cX5_retry 18 = .ok (.iconst (-1), 1) := by decide +kernel
theorem dX5_retry_19 : decode cX5_retry 19 = .ok (.ireturn, 1) := by decide +kernel
theorem dX5_retry_20 : decode cX5_retry 20 = .ok (.aload_n 3, 1) := by decide +kernel
theorem dX5_retry_21 : decode cX5_retry 21 = .ok (.getfield 81, 3) := by decide +kernel
theorem dX5_retry_24 : decode cX5_retry 24 = .ok (.iload_n 2, 1) := by decide +kernel
theorem dX5_retry_25 : decode cX5_retry 25 = .ok (.iaload, 1) := by decide +kernel
theorem dX5_retry_26 : decode cX5_retry 26 = .ok (.ifCond .eq 5, 3) := by decide +kernel
theorem dX5_retry_29 : decode cX5_retry 29 = .ok (.iconst 0, 1) := by decide +kernel
theorem dX5_retry_30 : decode cX5_retry 30 = .ok (.ireturn, 1) := by decide +kernel
theorem dX5_retry_31 : decode cX5_retry 31 = .ok (.aload_n 0, 1) := by decide +kernel
theorem dX5_retry_32 : decode cX5_retry 32 = .ok (.aload_n 3, 1) := by decide +kernel
theorem dX5_retry_33 : decode cX5_retry 33 = .ok (.iload_n 2, 1) := by decide +kernel
theorem dX5_retry_34 : decode cX5_retry 34 = .ok (.invokestatic 69, 3) := by decide +kernel
theorem dX5_retry_37 : decode cX5_retry 37 = .ok (.invokevirtual 73, 3) := by decide +kernel
theorem dX5_retry_40 : decode cX5_retry 40 = .ok (.iconst 1, 1) := by decide +kernel
theorem dX5_retry_41 : decode cX5_retry 41 = .ok (.ireturn, 1) := by decide +kernel
theorem dX5_ack_0 : decode cX5_ack 0 = .ok (.aload_n 0, 1) := by decide +kernel
theorem dX5_ack_1 : decode cX5_ack 1 = .ok (.iload_n 1, 1) := by decide +kernel
theorem dX5_ack_2 : decode cX5_ack 2 = .ok (.invokevirtual 38, 3) := by decide +kernel
theorem dX5_ack_5 : decode cX5_ack 5 = .ok (.astore_n 3, 1) := by decide +kernel
theorem dX5_ack_6 : decode cX5_ack 6 = .ok (.aload_n 3, 1) := by decide +kernel
theorem dX5_ack_7 : decode cX5_ack 7 = .ok (.ifnull 11, 3) := by decide +kernel
theorem dX5_ack_10 : decode cX5_ack 10 = .ok (.aload_n 0, 1) := by decide +kernel
theorem dX5_ack_11 : decode cX5_ack 11 = .ok (.iload_n 2, 1) := by decide +kernel
theorem dX5_ack_12 : decode cX5_ack 12 = .ok (.invokevirtual 85, 3) := by decide +kernel
theorem dX5_ack_15 : decode cX5_ack 15 = .ok (.ifnonnull 5, 3) := by decide +kernel
theorem dX5_ack_18 : decode cX5_ack 18 = .ok (.iconst (-1), 1) := by decide +kernel
theorem dX5_ack_19 : decode cX5_ack 19 = .ok (.ireturn, 1) := by decide +kernel
theorem dX5_ack_20 : decode cX5_ack 20 = .ok (.aload_n 3, 1) := by decide +kernel
theorem dX5_ack_21 : decode cX5_ack 21 = .ok (.getfield 45, 3) := by decide +kernel
theorem dX5_ack_24 : decode cX5_ack 24 = .ok (.ifCond .ne 6, 3) := by decide +kernel
theorem dX5_ack_27 : decode cX5_ack 27 = .ok (.bipush (-3), 2) := by decide +kernel
theorem dX5_ack_29 : decode cX5_ack 29 = .ok (.ireturn, 1) := by decide +kernel
theorem dX5_ack_30 : decode cX5_ack 30 = .ok (.new 89, 3) := by decide +kernel
theorem dX5_ack_33 : decode cX5_ack 33 = .ok (.dup, 1) := by decide +kernel
theorem dX5_ack_34 : decode cX5_ack 34 = .ok (.iconst 5, 1) := by decide +kernel
theorem dX5_ack_35 : decode cX5_ack 35 = .ok (.iload_n 2, 1) := by decide +kernel
theorem dX5_ack_36 : decode cX5_ack 36 = .ok (.iload_n 1, 1) := by decide +kernel
theorem dX5_ack_37 : decode cX5_ack 37 = .ok (.invokespecial 91, 3) := by decide +kernel
theorem dX5_ack_40 : decode cX5_ack 40 = .ok (.astore 4, 2) := by decide +kernel
theorem dX5_ack_42 : decode cX5_ack 42 = .ok (.aload 4, 2) := by decide +kernel
theorem dX5_ack_44 : decode cX5_ack 44 = .ok (.aload_n 3, 1) := by decide +kernel
theorem dX5_ack_45 : decode cX5_ack 45 = .ok (.getfield 45, 3) := by decide +kernel
theorem dX5_ack_48 : decode cX5_ack 48 = .ok (.putfield 94, 3) := by decide +kernel
theorem dX5_ack_51 : decode cX5_ack 51 = .ok (.aload 4, 2) := by decide +kernel
theorem dX5_ack_53 : decode cX5_ack 53 = .ok (.aload_n 3, 1) := by decide +kernel
theorem dX5_ack_54 : decode cX5_ack 54 = .ok (.invokevirtual 95, 3) := by decide +kernel
theorem dX5_ack_57 : decode cX5_ack 57 = .ok (.putfield 98, 3) := by decide +kernel
theorem dX5_ack_60 : decode cX5_ack 60 = .ok (.aload_n 0, 1) := by decide +kernel
theorem dX5_ack_61 : decode cX5_ack 61 = .ok (.aload 4, 2) := by decide +kernel
theorem dX5_ack_63 : decode cX5_ack 63 = .ok (.invokevirtual 73, 3) := by decide +kernel
theorem dX5_ack_66 : decode cX5_ack 66 = .ok (.aload 4, 2) := by decide +kernel
theorem dX5_ack_68 : decode cX5_ack 68 = .ok (.getfield 98, 3) := by decide +kernel
theorem dX5_ack_71 : decode cX5_ack 71 = .ok (.ireturn, 1) := by decide +kernel
theorem dX5_deliver_0 : decode cX5_deliver 0 = .ok (.aload_n 0, 1) := by decide +kernel
theorem dX5_deliver_1 : decode cX5_deliver 1 = .ok (.getfield 34, 3) := by decide +kernel
theorem dX5_deliver_4 : decode cX5_deliver 4 = .ok (.iload_n 1, 1) := by decide +kernel
theorem dX5_deliver_5 : decode cX5_deliver 5 = .ok (.invokevirtual 100, 3) := by decide +kernel
theorem dX5_deliver_8 : decode cX5_deliver 8 = .ok (.astore_n 2, 1) := by decide +kernel
theorem dX5_deliver_9 : decode cX5_deliver 9 = .ok (.aload_n 2, 1) := by decide +kernel
theorem dX5_deliver_10 : decode cX5_deliver 10 = .ok (.ifnonnull 5, 3) := by decide +kernel
theorem dX5_deliver_13 : decode cX5_deliver 13 = .ok (.iconst (-1), 1) := by decide +kernel
theorem dX5_deliver_14 : decode cX5_deliver 14 = .ok (.ireturn, 1) := by decide +kernel
theorem dX5_deliver_15 : decode cX5_deliver 15 = .ok (.aload_n 0, 1) := by decide +kernel
theorem dX5_deliver_16 : decode cX5_deliver 16 = .ok (.getfield 34, 3) := by decide +kernel
theorem dX5_deliver_19 : decode cX5_deliver 19 = .ok (.iload_n 1, 1) := by decide +kernel
theorem dX5_deliver_20 : decode cX5_deliver 20 = .ok (.invokevirtual 104, 3) := by decide +kernel
theorem dX5_deliver_23 : decode cX5_deliver 23 = .ok (.aload_n 2, 1) := by decide +kernel
theorem dX5_deliver_24 : decode cX5_deliver 24 = .ok (.getfield 107, 3) := by decide +kernel
theorem dX5_deliver_27 : decode cX5_deliver 27 = .ok (.iconst 2, 1) := by decide +kernel
theorem dX5_deliver_28 : decode cX5_deliver 28 = .ok (.if_icmp .ne 13, 3) := by decide +kernel
theorem dX5_deliver_31 : decode cX5_deliver 31 = .ok (.aload_n 0, 1) := by decide +kernel
theorem dX5_deliver_32 : decode cX5_deliver 32 = .ok (.aload_n 2, 1) := by decide +kernel
theorem dX5_deliver_33 : decode cX5_deliver 33 = .ok (.invokevirtual 110, 3) := by decide +kernel
theorem dX5_deliver_36 : decode cX5_deliver 36 = .ok (.aload_n 2, 1) := by decide +kernel
theorem dX5_deliver_37 : decode cX5_deliver 37 = .ok (.getfield 107, 3) := by decide +kernel
theorem dX5_deliver_40 : decode cX5_deliver 40 = .ok (.ireturn, 1) := by decide +kernel
theorem dX5_deliver_41 : decode cX5_deliver 41 = .ok (.aload_n 0, 1) := by decide +kernel
theorem dX5_deliver_42 : decode cX5_deliver 42 = .ok (.aload_n 2, 1) := by decide +kernel
theorem dX5_deliver_43 : decode cX5_deliver 43 = .ok (.getfield 113, 3) := by decide +kernel
theorem dX5_deliver_46 : decode cX5_deliver 46 = .ok (.invokevirtual 85, 3) := by decide +kernel
theorem dX5_deliver_49 : decode cX5_deliver 49 = .ok (.astore_n 3, 1) := by decide +kernel
theorem dX5_deliver_50 : decode cX5_deliver 50 = .ok (.aload_n 3, 1) := by decide +kernel
theorem dX5_deliver_51 : decode cX5_deliver 51 = .ok (.ifnull 10, 3) := by decide +kernel
theorem dX5_deliver_54 : decode cX5_deliver 54 = .ok (.aload_n 3, 1) := by decide +kernel
theorem dX5_deliver_55 : decode cX5_deliver 55 = .ok (.getfield 116, 3) := by decide +kernel
theorem dX5_deliver_58 : decode cX5_deliver 58 = .ok (.ifCond .ne 21, 3) := by decide +kernel
theorem dX5_deliver_61 : decode cX5_deliver 61 = .ok (.aload_n 0, 1) := by decide +kernel
theorem dX5_deliver_62 : decode cX5_deliver 62 = .ok (.dup, 1) := by decide +kernel
theorem dX5_deliver_63 : decode cX5_deliver 63 = .ok (.getfield 120, 3) := by decide +kernel
theorem dX5_deliver_66 : decode cX5_deliver 66 = .ok (.iconst 1, 1) := by decide +kernel
theorem dX5_deliver_67 : decode cX5_deliver 67 = .ok (.iadd, 1) := by decide +kernel
theorem dX5_deliver_68 : decode cX5_deliver 68 = .ok (.putfield 120, 3) := by decide +kernel
theorem dX5_deliver_71 : decode cX5_deliver 71 = .ok (.aload_n 2, 1) := by decide +kernel
theorem dX5_deliver_72 : decode cX5_deliver 72 = .ok (.getfield 107, 3) := by decide +kernel
theorem dX5_deliver_75 : decode cX5_deliver 75 = .ok (.bipush 10, 2) := by decide +kernel
theorem dX5_deliver_77 : decode cX5_deliver 77 = .ok (.iadd, 1) := by decide +kernel
theorem dX5_deliver_78 : decode cX5_deliver 78 = .ok (.ireturn, 1) := by decide +kernel
theorem dX5_deliver_79 : decode cX5_deliver 79 = .ok (.aload_n 0, 1) := by decide +kernel
theorem dX5_deliver_80 : decode cX5_deliver 80 = .ok (.aload_n 3, 1) := by decide +kernel
theorem dX5_deliver_81 : decode cX5_deliver 81 = .ok (.aload_n 2, 1) := by decide +kernel
theorem dX5_deliver_82 : decode cX5_deliver 82 = .ok (.invokevirtual 123, 3) := by decide +kernel
theorem dX5_deliver_85 : decode cX5_deliver 85 = .ok (.aload_n 2, 1) := by decide +kernel
theorem dX5_deliver_86 : decode cX5_deliver 86 = .ok (.getfield 107, 3) := by decide +kernel
theorem dX5_deliver_89 : decode cX5_deliver 89 = .ok (.ireturn, 1) := by decide +kernel
theorem dX5_drop_0 : decode cX5_drop 0 = .ok (.aload_n 0, 1) := by decide +kernel
theorem dX5_drop_1 : decode cX5_drop 1 = .ok (.getfield 34, 3) := by decide +kernel
theorem dX5_drop_4 : decode cX5_drop 4 = .ok (.iload_n 1, 1) := by decide +kernel
theorem dX5_drop_5 : decode cX5_drop 5 = .ok (.invokevirtual 100, 3) := by decide +kernel
theorem dX5_drop_8 : decode cX5_drop 8 = .ok (.astore_n 2, 1) := by decide +kernel
theorem dX5_drop_9 : decode cX5_drop 9 = .ok (.aload_n 2, 1) := by decide +kernel
theorem dX5_drop_10 : decode cX5_drop 10 = .ok (.ifnonnull 5, 3) := by decide +kernel
theorem dX5_drop_13 : decode cX5_drop 13 = .ok (.iconst (-1), 1) := by decide +kernel
theorem dX5_drop_14 : decode cX5_drop 14 = .ok (.ireturn, 1) := by decide +kernel
theorem dX5_drop_15 : decode cX5_drop 15 = .ok (.aload_n 0, 1) := by decide +kernel
theorem dX5_drop_16 : decode cX5_drop 16 = .ok (.getfield 34, 3) := by decide +kernel
theorem dX5_drop_19 : decode cX5_drop 19 = .ok (.iload_n 1, 1) := by decide +kernel
theorem dX5_drop_20 : decode cX5_drop 20 = .ok (.invokevirtual 104, 3) := by decide +kernel
theorem dX5_drop_23 : decode cX5_drop 23 = .ok (.aload_n 0, 1) := by decide +kernel
theorem dX5_drop_24 : decode cX5_drop 24 = .ok (.dup, 1) := by decide +kernel
theorem dX5_drop_25 : decode cX5_drop 25 = .ok (.getfield 120, 3) := by decide +kernel
theorem dX5_drop_28 : decode cX5_drop 28 = .ok (.iconst 1, 1) := by decide +kernel
theorem dX5_drop_29 : decode cX5_drop 29 = .ok (.iadd, 1) := by decide +kernel
theorem dX5_drop_30 : decode cX5_drop 30 = .ok (.putfield 120, 3) := by decide +kernel
theorem dX5_drop_33 : decode cX5_drop 33 = .ok (.aload_n 2, 1) := by decide +kernel
theorem dX5_drop_34 : decode cX5_drop 34 = .ok (.getfield 107, 3) := by decide +kernel
theorem dX5_drop_37 : decode cX5_drop 37 = .ok (.ireturn, 1) := by decide +kernel
theorem dX5_twin_0 : decode cX5_twin 0 = .ok (.aload_n 0, 1) := by decide +kernel
theorem dX5_twin_1 : decode cX5_twin 1 = .ok (.getfield 34, 3) := by decide +kernel
theorem dX5_twin_4 : decode cX5_twin 4 = .ok (.iload_n 1, 1) := by decide +kernel
theorem dX5_twin_5 : decode cX5_twin 5 = .ok (.invokevirtual 100, 3) := by decide +kernel
theorem dX5_twin_8 : decode cX5_twin 8 = .ok (.astore_n 2, 1) := by decide +kernel
theorem dX5_twin_9 : decode cX5_twin 9 = .ok (.aload_n 2, 1) := by decide +kernel
theorem dX5_twin_10 : decode cX5_twin 10 = .ok (.ifnonnull 5, 3) := by decide +kernel
theorem dX5_twin_13 : decode cX5_twin 13 = .ok (.iconst (-1), 1) := by decide +kernel
theorem dX5_twin_14 : decode cX5_twin 14 = .ok (.ireturn, 1) := by decide +kernel
theorem dX5_twin_15 : decode cX5_twin 15 = .ok (.aload_n 0, 1) := by decide +kernel
theorem dX5_twin_16 : decode cX5_twin 16 = .ok (.getfield 34, 3) := by decide +kernel
theorem dX5_twin_19 : decode cX5_twin 19 = .ok (.aload_n 2, 1) := by decide +kernel
theorem dX5_twin_20 : decode cX5_twin 20 = .ok (.invokevirtual 127, 3) := by decide +kernel
theorem dX5_twin_23 : decode cX5_twin 23 = .ok (.ifCond .eq 10, 3) := by decide +kernel
theorem dX5_twin_26 : decode cX5_twin 26 = .ok (.aload_n 2, 1) := by decide +kernel
theorem dX5_twin_27 : decode cX5_twin 27 = .ok (.getfield 107, 3) := by decide +kernel
theorem dX5_twin_30 : decode cX5_twin 30 = .ok (.goto 5, 3) := by decide +kernel
theorem dX5_twin_33 : decode cX5_twin 33 = .ok (.bipush (-2), 2) := by decide +kernel
theorem dX5_twin_35 : decode cX5_twin 35 = .ok (.ireturn, 1) := by decide +kernel
theorem dX5_sync_0 : decode cX5_sync 0 = .ok (.aload_n 0, 1) := by decide +kernel
theorem dX5_sync_1 : decode cX5_sync 1 = .ok (.iload_n 1, 1) := by decide +kernel
theorem dX5_sync_2 : decode cX5_sync 2 = .ok (.invokevirtual 85, 3) := by decide +kernel
theorem dX5_sync_5 : decode cX5_sync 5 = .ok (.astore_n 2, 1) := by decide +kernel
theorem dX5_sync_6 : decode cX5_sync 6 = .ok (.aload_n 2, 1) := by decide +kernel
theorem dX5_sync_7 : decode cX5_sync 7 = .ok (.ifnonnull 5, 3) := by decide +kernel
theorem dX5_sync_10 : decode cX5_sync 10 = .ok (.iconst (-1), 1) := by decide +kernel
theorem dX5_sync_11 : decode cX5_sync 11 = .ok (.ireturn, 1) := by decide +kernel
theorem dX5_sync_12 : decode cX5_sync 12 = .ok (.aload_n 2, 1) := by decide +kernel
theorem dX5_sync_13 : decode cX5_sync 13 = .ok (.getfield 116, 3) := by decide +kernel
theorem dX5_sync_16 : decode cX5_sync 16 = .ok (.ifCond .ne 6, 3) := by decide +kernel
theorem dX5_sync_19 : decode cX5_sync 19 = .ok (.bipush (-3), 2) := by decide +kernel
theorem dX5_sync_21 : decode cX5_sync 21 = .ok (.ireturn, 1) := by decide +kernel
theorem dX5_sync_22 : decode cX5_sync 22 = .ok (.aload_n 2, 1) := by decide +kernel
theorem dX5_sync_23 : decode cX5_sync 23 = .ok (.invokevirtual 131, 3) := by decide +kernel
theorem dX5_sync_26 : decode cX5_sync 26 = .ok (.aload_n 2, 1) := by decide +kernel
theorem dX5_sync_27 : decode cX5_sync 27 = .ok (.getfield 134, 3) := by decide +kernel
theorem dX5_sync_30 : decode cX5_sync 30 = .ok (.getfield 137, 3) := by decide +kernel
theorem dX5_sync_33 : decode cX5_sync 33 = .ok (.istore_n 3, 1) := by decide +kernel
theorem dX5_sync_34 : decode cX5_sync 34 = .ok (.iconst 0, 1) := by decide +kernel
theorem dX5_sync_35 : decode cX5_sync 35 = .ok (.istore 4, 2) := by decide +kernel
theorem dX5_sync_37 : decode cX5_sync 37 = .ok (.iload 4, 2) := by decide +kernel
theorem dX5_sync_39 : decode cX5_sync 39 = .ok (.iload_n 3, 1) := by decide +kernel
theorem dX5_sync_40 : decode cX5_sync 40 = .ok (.if_icmp .ge 22, 3) := by decide +kernel
theorem dX5_sync_43 : decode cX5_sync 43 = .ok (.aload_n 0, 1) := by decide +kernel
theorem dX5_sync_44 : decode cX5_sync 44 = .ok (.aload_n 2, 1) := by decide +kernel
theorem dX5_sync_45 : decode cX5_sync 45 = .ok (.getfield 134, 3) := by decide +kernel
theorem dX5_sync_48 : decode cX5_sync 48 = .ok (.iload 4, 2) := by decide +kernel
theorem dX5_sync_50 : decode cX5_sync 50 = .ok (.invokevirtual 100, 3) := by decide +kernel
theorem dX5_sync_53 : decode cX5_sync 53 = .ok (.invokevirtual 73, 3) := by decide +kernel
theorem dX5_sync_56 : decode cX5_sync 56 = .ok (.iinc 4 1, 3) := by decide +kernel
theorem dX5_sync_59 : decode cX5_sync 59 = .ok (.goto (-22), 3) := by decide +kernel
theorem dX5_sync_62 : decode cX5_sync 62 = .ok (.aload_n 2, 1) := by decide +kernel
theorem dX5_sync_63 : decode cX5_sync 63 = .ok (.getfield 134, 3) := by decide +kernel
theorem dX5_sync_66 : decode cX5_sync 66 = .ok (.invokevirtual 140, 3) := by decide +kernel
theorem dX5_sync_69 : decode cX5_sync 69 = .ok (.iload_n 3, 1) := by decide +kernel
theorem dX5_sync_70 : decode cX5_sync 70 = .ok (.ireturn, 1) := by decide +kernel
theorem dX5_crash_0 : decode cX5_crash 0 = .ok (.aload_n 0, 1) := by decide +kernel
theorem dX5_crash_1 : decode cX5_crash 1 = .ok (.iload_n 1, 1) := by decide +kernel
theorem dX5_crash_2 : decode cX5_crash 2 = .ok (.invokevirtual 85, 3) := by decide +kernel
theorem dX5_crash_5 : decode cX5_crash 5 = .ok (.astore_n 2, 1) := by decide +kernel
theorem dX5_crash_6 : decode cX5_crash 6 = .ok (.aload_n 2, 1) := by decide +kernel
theorem dX5_crash_7 : decode cX5_crash 7 = .ok (.ifnonnull 5, 3) := by decide +kernel
theorem dX5_crash_10 : decode cX5_crash 10 = .ok (.iconst (-1), 1) := by decide +kernel
theorem dX5_crash_11 : decode cX5_crash 11 = .ok (.ireturn, 1) := by decide +kernel
theorem dX5_crash_12 : decode cX5_crash 12 = .ok (.aload_n 2, 1) := by decide +kernel
theorem dX5_crash_13 : decode cX5_crash 13 = .ok (.getfield 116, 3) := by decide +kernel
theorem dX5_crash_16 : decode cX5_crash 16 = .ok (.ifCond .ne 6, 3) := by decide +kernel
theorem dX5_crash_19 : decode cX5_crash 19 = .ok (.bipush (-3), 2) := by decide +kernel
theorem dX5_crash_21 : decode cX5_crash 21 = .ok (.ireturn, 1) := by decide +kernel
theorem dX5_crash_22 : decode cX5_crash 22 = .ok (.aload_n 2, 1) := by decide +kernel
theorem dX5_crash_23 : decode cX5_crash 23 = .ok (.getfield 134, 3) := by decide +kernel
theorem dX5_crash_26 : decode cX5_crash 26 = .ok (.getfield 137, 3) := by decide +kernel
theorem dX5_crash_29 : decode cX5_crash 29 = .ok (.istore_n 3, 1) := by decide +kernel
theorem dX5_crash_30 : decode cX5_crash 30 = .ok (.aload_n 0, 1) := by decide +kernel
theorem dX5_crash_31 : decode cX5_crash 31 = .ok (.dup, 1) := by decide +kernel
theorem dX5_crash_32 : decode cX5_crash 32 = .ok (.getfield 120, 3) := by decide +kernel
theorem dX5_crash_35 : decode cX5_crash 35 = .ok (.iload_n 3, 1) := by decide +kernel
theorem dX5_crash_36 : decode cX5_crash 36 = .ok (.iadd, 1) := by decide +kernel
theorem dX5_crash_37 : decode cX5_crash 37 = .ok (.putfield 120, 3) := by decide +kernel
theorem dX5_crash_40 : decode cX5_crash 40 = .ok (.aload_n 2, 1) := by decide +kernel
theorem dX5_crash_41 : decode cX5_crash 41 = .ok (.getfield 134, 3) := by decide +kernel
theorem dX5_crash_44 : decode cX5_crash 44 = .ok (.invokevirtual 140, 3) := by decide +kernel
theorem dX5_crash_47 : decode cX5_crash 47 = .ok (.aload_n 2, 1) := by decide +kernel
theorem dX5_crash_48 : decode cX5_crash 48 = .ok (.iconst 0, 1) := by decide +kernel
theorem dX5_crash_49 : decode cX5_crash 49 = .ok (.putfield 116, 3) := by decide +kernel
theorem dX5_crash_52 : decode cX5_crash 52 = .ok (.aload_n 2, 1) := by decide +kernel
theorem dX5_crash_53 : decode cX5_crash 53 = .ok (.invokevirtual 143, 3) := by decide +kernel
theorem dX5_crash_56 : decode cX5_crash 56 = .ok (.iload_n 3, 1) := by decide +kernel
theorem dX5_crash_57 : decode cX5_crash 57 = .ok (.ireturn, 1) := by decide +kernel
theorem dX5_start_0 : decode cX5_start 0 = .ok (.aload_n 0, 1) := by decide +kernel
theorem dX5_start_1 : decode cX5_start 1 = .ok (.iload_n 1, 1) := by decide +kernel
theorem dX5_start_2 : decode cX5_start 2 = .ok (.invokevirtual 85, 3) := by decide +kernel
theorem dX5_start_5 : decode cX5_start 5 = .ok (.astore_n 2, 1) := by decide +kernel
theorem dX5_start_6 : decode cX5_start 6 = .ok (.aload_n 2, 1) := by decide +kernel
theorem dX5_start_7 : decode cX5_start 7 = .ok (.ifnonnull 5, 3) := by decide +kernel
theorem dX5_start_10 : decode cX5_start 10 = .ok (.iconst (-1), 1) := by decide +kernel
theorem dX5_start_11 : decode cX5_start 11 = .ok (.ireturn, 1) := by decide +kernel
theorem dX5_start_12 : decode cX5_start 12 = .ok (.aload_n 2, 1) := by decide +kernel
theorem dX5_start_13 : decode cX5_start 13 = .ok (.getfield 116, 3) := by decide +kernel
theorem dX5_start_16 : decode cX5_start 16 = .ok (.ifCond .eq 6, 3) := by decide +kernel
theorem dX5_start_19 : decode cX5_start 19 = .ok (.bipush (-3), 2) := by decide +kernel
theorem dX5_start_21 : decode cX5_start 21 = .ok (.ireturn, 1) := by decide +kernel
theorem dX5_start_22 : decode cX5_start 22 = .ok (.aload_n 2, 1) := by decide +kernel
theorem dX5_start_23 : decode cX5_start 23 = .ok (.iconst 1, 1) := by decide +kernel
theorem dX5_start_24 : decode cX5_start 24 = .ok (.putfield 116, 3) := by decide +kernel
theorem dX5_start_27 : decode cX5_start 27 = .ok (.iconst 1, 1) := by decide +kernel
theorem dX5_start_28 : decode cX5_start 28 = .ok (.ireturn, 1) := by decide +kernel
theorem dX5_move_0 : decode cX5_move 0 = .ok (.aload_n 0, 1) := by decide +kernel
theorem dX5_move_1 : decode cX5_move 1 = .ok (.iload_n 1, 1) := by decide +kernel
theorem dX5_move_2 : decode cX5_move 2 = .ok (.invokevirtual 85, 3) := by decide +kernel
theorem dX5_move_5 : decode cX5_move 5 = .ok (.astore 4, 2) := by decide +kernel
theorem dX5_move_7 : decode cX5_move 7 = .ok (.aload 4, 2) := by decide +kernel
theorem dX5_move_9 : decode cX5_move 9 = .ok (.ifnull 11, 3) := by decide +kernel
theorem dX5_move_12 : decode cX5_move 12 = .ok (.aload_n 0, 1) := by decide +kernel
theorem dX5_move_13 : decode cX5_move 13 = .ok (.iload_n 3, 1) := by decide +kernel
theorem dX5_move_14 : decode cX5_move 14 = .ok (.invokevirtual 85, 3) := by decide +kernel
theorem dX5_move_17 : decode cX5_move 17 = .ok (.ifnonnull 5, 3) := by decide +kernel
theorem dX5_move_20 : decode cX5_move 20 = .ok (.iconst (-1), 1) := by decide +kernel
theorem dX5_move_21 : decode cX5_move 21 = .ok (.ireturn, 1) := by decide +kernel
theorem dX5_move_22 : decode cX5_move 22 = .ok (.aload 4, 2) := by decide +kernel
theorem dX5_move_24 : decode cX5_move 24 = .ok (.iload_n 2, 1) := by decide +kernel
theorem dX5_move_25 : decode cX5_move 25 = .ok (.invokevirtual 146, 3) := by decide +kernel
theorem dX5_move_28 : decode cX5_move 28 = .ok (.astore 5, 2) := by decide +kernel
theorem dX5_move_30 : decode cX5_move 30 = .ok (.aload 5, 2) := by decide +kernel
theorem dX5_move_32 : decode cX5_move 32 = .ok (.ifnonnull 5, 3) := by decide +kernel
theorem dX5_move_35 : decode cX5_move 35 = .ok (.iconst (-1), 1) := by decide +kernel
theorem dX5_move_36 : decode cX5_move 36 = .ok (.ireturn, 1) := by decide +kernel
theorem dX5_move_37 : decode cX5_move 37 = .ok (.aload 4, 2) := by decide +kernel
theorem dX5_move_39 : decode cX5_move 39 = .ok (.getfield 116, 3) := by decide +kernel
theorem dX5_move_42 : decode cX5_move 42 = .ok (.ifCond .eq 17, 3) := by decide +kernel
theorem dX5_move_45 : decode cX5_move 45 = .ok (.iload_n 3, 1) := by decide +kernel
theorem dX5_move_46 : decode cX5_move 46 = .ok (.iload_n 1, 1) := by decide +kernel
theorem dX5_move_47 : decode cX5_move 47 = .ok (.if_icmp .eq 12, 3) := by decide +kernel
theorem dX5_move_50 : decode cX5_move 50 = .ok (.aload 5, 2) := by decide +kernel
theorem dX5_move_52 : decode cX5_move 52 = .ok (.iload_n 3, 1) := by decide +kernel
theorem dX5_move_53 : decode cX5_move 53 = .ok (.invokevirtual 150, 3) := by decide +kernel
theorem dX5_move_56 : decode cX5_move 56 = .ok (.ifCond .ne 6, 3) := by decide +kernel
theorem dX5_move_59 : decode cX5_move 59 = .ok (.bipush (-3), 2) := by decide +kernel
theorem dX5_move_61 : decode cX5_move 61 = .ok (.ireturn, 1) := by decide +kernel
theorem dX5_move_62 : decode cX5_move 62 = .ok (.aload 5, 2) := by decide +kernel
theorem dX5_move_64 : decode cX5_move 64 = .ok (.getfield 155, 3) := by decide +kernel
theorem dX5_move_67 : decode cX5_move 67 = .ok (.iconst 1, 1) := by decide +kernel
theorem dX5_move_68 : decode cX5_move 68 = .ok (.if_icmp .ne 21, 3) := by decide +kernel
theorem dX5_move_71 : decode cX5_move 71 = .ok (.aload 5, 2) := by decide +kernel
theorem dX5_move_73 : decode cX5_move 73 = .ok (.iconst 2, 1) := by decide +kernel
theorem dX5_move_74 : decode cX5_move 74 = .ok (.putfield 155, 3) := by decide +kernel
theorem dX5_move_77 : decode cX5_move 77 = .ok (.aload 5, 2) := by decide +kernel
theorem dX5_move_79 : decode cX5_move 79 = .ok (.iload_n 3, 1) := by decide +kernel
theorem dX5_move_80 : decode cX5_move 80 = .ok (.putfield 158, 3) := by decide +kernel
theorem dX5_move_83 : decode cX5_move 83 = .ok (.aload 4, 2) := by decide +kernel
theorem dX5_move_85 : decode cX5_move 85 = .ok (.iconst 0, 1) := by decide +kernel
theorem dX5_move_86 : decode cX5_move 86 = .ok (.putfield 161, 3) := by decide +kernel
theorem dX5_move_89 : decode cX5_move 89 = .ok (.new 89, 3) := by decide +kernel
theorem dX5_move_92 : decode cX5_move 92 = .ok (.dup, 1) := by decide +kernel
theorem dX5_move_93 : decode cX5_move 93 = .ok (.iconst 3, 1) := by decide +kernel
theorem dX5_move_94 : decode cX5_move 94 = .ok (.iload_n 3, 1) := by decide +kernel
theorem dX5_move_95 : decode cX5_move 95 = .ok (.iload_n 1, 1) := by decide +kernel
theorem dX5_move_96 : decode cX5_move 96 = .ok (.invokespecial 91, 3) := by decide +kernel
theorem dX5_move_99 : decode cX5_move 99 = .ok (.astore 6, 2) := by decide +kernel
theorem dX5_move_101 : decode cX5_move 101 = .ok (.aload 6, 2) := by decide +kernel
theorem dX5_move_103 : decode cX5_move 103 = .ok (.iload_n 2, 1) := by decide +kernel
theorem dX5_move_104 : decode cX5_move 104 = .ok (.putfield 164, 3) := by decide +kernel
theorem dX5_move_107 : decode cX5_move 107 = .ok (.aload 6, 2) := by decide +kernel
theorem dX5_move_109 : decode cX5_move 109 = .ok (.aload 5, 2) := by decide +kernel
theorem dX5_move_111 : decode cX5_move 111 = .ok (.getfield 167, 3) := by decide +kernel
theorem dX5_move_114 : decode cX5_move 114 = .ok (.iconst 1, 1) := by decide +kernel
theorem dX5_move_115 : decode cX5_move 115 = .ok (.iadd, 1) := by decide +kernel
theorem dX5_move_116 : decode cX5_move 116 = .ok (.putfield 170, 3) := by decide +kernel
theorem dX5_move_119 : decode cX5_move 119 = .ok (.aload 6, 2) := by decide +kernel
theorem dX5_move_121 : decode cX5_move 121 = .ok (.new 151, 3) := by decide +kernel
theorem dX5_move_124 : decode cX5_move 124 = .ok (.dup, 1) := by decide +kernel
theorem dX5_move_125 : decode cX5_move 125 = .ok (.invokespecial 171, 3) := by decide +kernel
theorem dX5_move_128 : decode cX5_move 128 = .ok (.putfield 172, 3) := by decide +kernel
theorem dX5_move_131 : decode cX5_move 131 = .ok (.aload 6, 2) := by decide +kernel
theorem dX5_move_133 : decode cX5_move 133 = .ok (.getfield 172, 3) := by decide +kernel
theorem dX5_move_136 : decode cX5_move 136 = .ok (.aload 5, 2) := by decide +kernel
theorem dX5_move_138 : decode cX5_move 138 = .ok (.invokevirtual 176, 3) := by decide +kernel
theorem dX5_move_141 : decode cX5_move 141 = .ok (.aload_n 0, 1) := by decide +kernel
theorem dX5_move_142 : decode cX5_move 142 = .ok (.aload 4, 2) := by decide +kernel
theorem dX5_move_144 : decode cX5_move 144 = .ok (.aload 6, 2) := by decide +kernel
theorem dX5_move_146 : decode cX5_move 146 = .ok (.invokevirtual 180, 3) := by decide +kernel
theorem dX5_move_149 : decode cX5_move 149 = .ok (.aload 6, 2) := by decide +kernel
theorem dX5_move_151 : decode cX5_move 151 = .ok (.getfield 170, 3) := by decide +kernel
theorem dX5_move_154 : decode cX5_move 154 = .ok (.ireturn, 1) := by decide +kernel
theorem dX5_collect_0 : decode cX5_collect 0 = .ok (.aload_n 0, 1) := by decide +kernel
theorem dX5_collect_1 : decode cX5_collect 1 = .ok (.iload_n 1, 1) := by decide +kernel
theorem dX5_collect_2 : decode cX5_collect 2 = .ok (.invokevirtual 85, 3) := by decide +kernel
theorem dX5_collect_5 : decode cX5_collect 5 = .ok (.astore_n 2, 1) := by decide +kernel
theorem dX5_collect_6 : decode cX5_collect 6 = .ok (.aload_n 2, 1) := by decide +kernel
theorem dX5_collect_7 : decode cX5_collect 7 = .ok (.ifnonnull 5, 3) := by decide +kernel
theorem dX5_collect_10 : decode cX5_collect 10 = .ok (.iconst (-1), 1) := by decide +kernel
theorem dX5_collect_11 : decode cX5_collect 11 = .ok (.ireturn, 1) := by decide +kernel
theorem dX5_collect_12 : decode cX5_collect 12 = .ok (.aload_n 2, 1) := by decide +kernel
theorem dX5_collect_13 : decode cX5_collect 13 = .ok (.getfield 116, 3) := by decide +kernel
theorem dX5_collect_16 : decode cX5_collect 16 = .ok (.ifCond .ne 6, 3) := by decide +kernel
theorem dX5_collect_19 : decode cX5_collect 19 = .ok (.bipush (-3), 2) := by decide +kernel
theorem dX5_collect_21 : decode cX5_collect 21 = .ok (.ireturn, 1) := by decide +kernel
theorem dX5_collect_22 : decode cX5_collect 22 = .ok (.iconst 0, 1) := by decide +kernel
theorem dX5_collect_23 : decode cX5_collect 23 = .ok (.istore_n 3, 1) := by decide +kernel
theorem dX5_collect_24 : decode cX5_collect 24 = .ok (.iconst 0, 1) := by decide +kernel
theorem dX5_collect_25 : decode cX5_collect 25 = .ok (.istore 4, 2) := by decide +kernel
theorem dX5_collect_27 : decode cX5_collect 27 = .ok (.iload 4, 2) := by decide +kernel
theorem dX5_collect_29 : decode cX5_collect 29 = .ok (.bipush 8, 2) := by decide +kernel
theorem dX5_collect_31 : decode cX5_collect 31 = .ok (.if_icmp .ge 40, 3) := by decide +kernel
theorem dX5_collect_34 : decode cX5_collect 34 = .ok (.aload_n 2, 1) := by decide +kernel
theorem dX5_collect_35 : decode cX5_collect 35 = .ok (.iload 4, 2) := by decide +kernel
theorem dX5_collect_37 : decode cX5_collect 37 = .ok (.invokevirtual 146, 3) := by decide +kernel
theorem dX5_collect_40 : decode cX5_collect 40 = .ok (.astore 5, 2) := by decide +kernel
theorem dX5_collect_42 : decode cX5_collect 42 = .ok (.aload 5, 2) := by decide +kernel
theorem dX5_collect_44 : decode cX5_collect 44 = .ok (.ifnull 21, 3) := by decide +kernel
theorem dX5_collect_47 : decode cX5_collect 47 = .ok (.aload 5, 2) := by decide +kernel
theorem dX5_collect_49 : decode cX5_collect 49 = .ok (.getfield 155, 3) := by decide +kernel
theorem dX5_collect_52 : decode cX5_collect 52 = .ok (.iconst 1, 1) := by decide +kernel
theorem dX5_collect_53 : decode cX5_collect 53 = .ok (.if_icmp .ne 12, 3) := by decide +kernel
theorem dX5_collect_56 : decode cX5_collect 56 = .ok (.iload_n 3, 1) := by decide +kernel
theorem dX5_collect_57 : decode cX5_collect 57 = .ok (.aload_n 0, 1) := by decide +kernel
theorem dX5_collect_58 : decode cX5_collect 58 = .ok (.aload 5, 2) := by decide +kernel
theorem dX5_collect_60 : decode cX5_collect 60 = .ok (.invokevirtual 183, 3) := by decide +kernel
theorem dX5_collect_63 : decode cX5_collect 63 = .ok (.iadd, 1) := by decide +kernel
theorem dX5_collect_64 : decode cX5_collect 64 = .ok (.istore_n 3, 1) := by decide +kernel
theorem dX5_collect_65 : decode cX5_collect 65 = .ok (.iinc 4 1, 3) := by decide +kernel
theorem dX5_collect_68 : decode cX5_collect 68 = .ok (.goto (-41), 3) := by decide +kernel
theorem dX5_collect_71 : decode cX5_collect 71 = .ok (.iload_n 3, 1) := by decide +kernel
theorem dX5_collect_72 : decode cX5_collect 72 = .ok (.ifCond .le 8, 3) := by decide +kernel
theorem dX5_collect_75 : decode cX5_collect 75 = .ok (.aload_n 2, 1) := by decide +kernel
theorem dX5_collect_76 : decode cX5_collect 76 = .ok (.iconst 0, 1) := by decide +kernel
theorem dX5_collect_77 : decode cX5_collect 77 = .ok (.putfield 161, 3) := by decide +kernel
theorem dX5_collect_80 : decode cX5_collect 80 = .ok (.iload_n 3, 1) := by decide +kernel
theorem dX5_collect_81 : decode cX5_collect 81 = .ok (.ireturn, 1) := by decide +kernel
theorem dX5_ticks_0 : decode cX5_ticks 0 = .ok (.iload_n 1, 1) := by decide +kernel
theorem dX5_ticks_1 : decode cX5_ticks 1 = .ok (.ifCond .lt 10, 3) := by decide +kernel
theorem dX5_ticks_4 : decode cX5_ticks 4 = .ok (.iload_n 1, 1) := by decide +kernel
theorem dX5_ticks_5 : decode cX5_ticks 5 = .ok (.sipush 1000, 3) := by decide +kernel
theorem dX5_ticks_8 : decode cX5_ticks 8 = .ok (.if_icmp .le 5, 3) := by decide +kernel
theorem dX5_ticks_11 : decode cX5_ticks 11 = .ok (.iconst (-1), 1) := by decide +kernel
theorem dX5_ticks_12 : decode cX5_ticks 12 = .ok (.ireturn, 1) := by decide +kernel
theorem dX5_ticks_13 : decode cX5_ticks 13 = .ok (.aload_n 0, 1) := by decide +kernel
theorem dX5_ticks_14 : decode cX5_ticks 14 = .ok (.dup, 1) := by decide +kernel
theorem dX5_ticks_15 : decode cX5_ticks 15 = .ok (.getfield 51, 3) := by decide +kernel
theorem dX5_ticks_18 : decode cX5_ticks 18 = .ok (.iload_n 1, 1) := by decide +kernel
theorem dX5_ticks_19 : decode cX5_ticks 19 = .ok (.iadd, 1) := by decide +kernel
theorem dX5_ticks_20 : decode cX5_ticks 20 = .ok (.putfield 51, 3) := by decide +kernel
theorem dX5_ticks_23 : decode cX5_ticks 23 = .ok (.aload_n 0, 1) := by decide +kernel
theorem dX5_ticks_24 : decode cX5_ticks 24 = .ok (.getfield 51, 3) := by decide +kernel
theorem dX5_ticks_27 : decode cX5_ticks 27 = .ok (.ireturn, 1) := by decide +kernel
theorem dX5_server_0 : decode cX5_server 0 = .ok (.aload_n 0, 1) := by decide +kernel
theorem dX5_server_1 : decode cX5_server 1 = .ok (.iload_n 1, 1) := by decide +kernel
theorem dX5_server_2 : decode cX5_server 2 = .ok (.invokevirtual 85, 3) := by decide +kernel
theorem dX5_server_5 : decode cX5_server 5 = .ok (.astore_n 3, 1) := by decide +kernel
theorem dX5_server_6 : decode cX5_server 6 = .ok (.aload_n 3, 1) := by decide +kernel
theorem dX5_server_7 : decode cX5_server 7 = .ok (.ifnonnull 5, 3) := by decide +kernel
theorem dX5_server_10 : decode cX5_server 10 = .ok (.iconst (-1), 1) := by decide +kernel
theorem dX5_server_11 : decode cX5_server 11 = .ok (.ireturn, 1) := by decide +kernel
theorem dX5_server_12 : decode cX5_server 12 = .ok (.iload_n 2, 1) := by decide +kernel
theorem dX5_server_13 : decode cX5_server 13 = .ok (.tableswitch 86 0 3 #[31, 39, 62, 70], 31) := by decide +kernel
theorem dX5_server_44 : decode cX5_server 44 = .ok (.aload_n 3, 1) := by decide +kernel
theorem dX5_server_45 : decode cX5_server 45 = .ok (.getfield 116, 3) := by decide +kernel
theorem dX5_server_48 : decode cX5_server 48 = .ok (.invokestatic 187, 3) := by decide +kernel
theorem dX5_server_51 : decode cX5_server 51 = .ok (.ireturn, 1) := by decide +kernel
theorem dX5_server_52 : decode cX5_server 52 = .ok (.aload_n 3, 1) := by decide +kernel
theorem dX5_server_53 : decode cX5_server 53 = .ok (.getfield 116, 3) := by decide +kernel
theorem dX5_server_56 : decode cX5_server 56 = .ok (.ifCond .eq 14, 3) := by decide +kernel
theorem dX5_server_59 : decode cX5_server 59 = .ok (.aload_n 3, 1) := by decide +kernel
theorem dX5_server_60 : decode cX5_server 60 = .ok (.getfield 161, 3) := by decide +kernel
theorem dX5_server_63 : decode cX5_server 63 = .ok (.ifCond .eq 7, 3) := by decide +kernel
theorem dX5_server_66 : decode cX5_server 66 = .ok (.iconst 1, 1) := by decide +kernel
theorem dX5_server_67 : decode cX5_server 67 = .ok (.goto 4, 3) := by decide +kernel
theorem dX5_server_70 : decode cX5_server 70 = .ok (.iconst 0, 1) := by decide +kernel
theorem dX5_server_71 : decode cX5_server 71 = .ok (.invokestatic 187, 3) := by decide +kernel
theorem dX5_server_74 : decode cX5_server 74 = .ok (.ireturn, 1) := by decide +kernel
theorem dX5_server_75 : decode cX5_server 75 = .ok (.aload_n 3, 1) := by decide +kernel
theorem dX5_server_76 : decode cX5_server 76 = .ok (.getfield 134, 3) := by decide +kernel
theorem dX5_server_79 : decode cX5_server 79 = .ok (.getfield 137, 3) := by decide +kernel
theorem dX5_server_82 : decode cX5_server 82 = .ok (.ireturn, 1) := by decide +kernel
theorem dX5_server_83 : decode cX5_server 83 = .ok (.aload_n 3, 1) := by decide +kernel
theorem dX5_server_84 : decode cX5_server 84 = .ok (.getfield 116, 3) := by decide +kernel
theorem dX5_server_87 : decode cX5_server 87 = .ok (.ifCond .eq 10, 3) := by decide +kernel
theorem dX5_server_90 : decode cX5_server 90 = .ok (.aload_n 3, 1) := by decide +kernel
theorem dX5_server_91 : decode cX5_server 91 = .ok (.invokevirtual 191, 3) := by decide +kernel
theorem dX5_server_94 : decode cX5_server 94 = .ok (.goto 4, 3) := by decide +kernel
theorem dX5_server_97 : decode cX5_server 97 = .ok (.iconst 0, 1) := by decide +kernel
theorem dX5_server_98 : decode cX5_server 98 = .ok (.ireturn, 1) := by decide +kernel
theorem dX5_server_99 : decode cX5_server 99 = .ok (.iconst (-1), 1) := by decide +kernel
theorem dX5_server_100 : decode cX5_server 100 = .ok (.ireturn, 1) := by decide +kernel
theorem dX5_bucket_0 : decode cX5_bucket 0 = .ok (.aload_n 0, 1) := by decide +kernel
theorem dX5_bucket_1 : decode cX5_bucket 1 = .ok (.iload_n 1, 1) := by decide +kernel
theorem dX5_bucket_2 : decode cX5_bucket 2 = .ok (.iload_n 2, 1) := by decide +kernel
theorem dX5_bucket_3 : decode cX5_bucket 3 = .ok (.invokevirtual 194, 3) := by decide +kernel
theorem dX5_bucket_6 : decode cX5_bucket 6 = .ok (.astore 4, 2) := by decide +kernel
theorem dX5_bucket_8 : decode cX5_bucket 8 = .ok (.aload 4, 2) := by decide +kernel
theorem dX5_bucket_10 : decode cX5_bucket 10 = .ok (.ifnonnull 5, 3) := by decide +kernel
theorem dX5_bucket_13 : decode cX5_bucket 13 = .ok (.iconst (-1), 1) := by decide +kernel
theorem dX5_bucket_14 : decode cX5_bucket 14 = .ok (.ireturn, 1) := by decide +kernel
theorem dX5_bucket_15 : decode cX5_bucket 15 = .ok (.iload_n 3, 1) := by decide +kernel
theorem dX5_bucket_16 : decode cX5_bucket 16 = .ok (.bipush 10, 2) := by decide +kernel
theorem dX5_bucket_18 : decode cX5_bucket 18 = .ok (.if_icmp .lt 20, 3) := by decide +kernel
theorem dX5_bucket_21 : decode cX5_bucket 21 = .ok (.iload_n 3, 1) := by decide +kernel
theorem dX5_bucket_22 : decode cX5_bucket 22 = .ok (.bipush 16, 2) := by decide +kernel
theorem dX5_bucket_24 : decode cX5_bucket 24 = .ok (.if_icmp .ge 14, 3) := by decide +kernel
theorem dX5_bucket_27 : decode cX5_bucket 27 = .ok (.aload 4, 2) := by decide +kernel
theorem dX5_bucket_29 : decode cX5_bucket 29 = .ok (.getfield 197, 3) := by decide +kernel
theorem dX5_bucket_32 : decode cX5_bucket 32 = .ok (.iload_n 3, 1) := by decide +kernel
theorem dX5_bucket_33 : decode cX5_bucket 33 = .ok (.bipush 10, 2) := by decide +kernel
theorem dX5_bucket_35 : decode cX5_bucket 35 = .ok (.isub, 1) := by decide +kernel
theorem dX5_bucket_36 : decode cX5_bucket 36 = .ok (.iaload, 1) := by decide +kernel
theorem dX5_bucket_37 : decode cX5_bucket 37 = .ok (.ireturn, 1) := by decide +kernel
theorem dX5_bucket_38 : decode cX5_bucket 38 = .ok (.iload_n 3, 1) := by decide +kernel
theorem dX5_bucket_39 : decode cX5_bucket 39 = .ok (.bipush 20, 2) := by decide +kernel
theorem dX5_bucket_41 : decode cX5_bucket 41 = .ok (.if_icmp .lt 20, 3) := by decide +kernel
theorem dX5_bucket_44 : decode cX5_bucket 44 = .ok (.iload_n 3, 1) := by decide +kernel
theorem dX5_bucket_45 : decode cX5_bucket 45 = .ok (.bipush 26, 2) := by decide +kernel
theorem dX5_bucket_47 : decode cX5_bucket 47 = .ok (.if_icmp .ge 14, 3) := by decide +kernel
theorem dX5_bucket_50 : decode cX5_bucket 50 = .ok (.aload 4, 2) := by decide +kernel
theorem dX5_bucket_52 : decode cX5_bucket 52 = .ok (.getfield 199, 3) := by decide +kernel
theorem dX5_bucket_55 : decode cX5_bucket 55 = .ok (.iload_n 3, 1) := by decide +kernel
theorem dX5_bucket_56 : decode cX5_bucket 56 = .ok (.bipush 20, 2) := by decide +kernel
theorem dX5_bucket_58 : decode cX5_bucket 58 = .ok (.isub, 1) := by decide +kernel
theorem dX5_bucket_59 : decode cX5_bucket 59 = .ok (.iaload, 1) := by decide +kernel
theorem dX5_bucket_60 : decode cX5_bucket 60 = .ok (.ireturn, 1) := by decide +kernel
theorem dX5_bucket_61 : decode cX5_bucket 61 = .ok (.iload_n 3, 1) := by decide +kernel
theorem dX5_bucket_62 : decode cX5_bucket 62 = .ok (.tableswitch 54 0 3 #[30, 36, 42, 48], 30) := by decide +kernel
theorem dX5_bucket_92 : decode cX5_bucket 92 = .ok (.aload 4, 2) := by decide +kernel
theorem dX5_bucket_94 : decode cX5_bucket 94 = .ok (.getfield 155, 3) := by decide +kernel
theorem dX5_bucket_97 : decode cX5_bucket 97 = .ok (.ireturn, 1) := by decide +kernel
theorem dX5_bucket_98 : decode cX5_bucket 98 = .ok (.aload 4, 2) := by decide +kernel
theorem dX5_bucket_100 : decode cX5_bucket 100 = .ok (.getfield 167, 3) := by decide +kernel
theorem dX5_bucket_103 : decode cX5_bucket 103 = .ok (.ireturn, 1) := by decide +kernel
theorem dX5_bucket_104 : decode cX5_bucket 104 = .ok (.aload 4, 2) := by decide +kernel
theorem dX5_bucket_106 : decode cX5_bucket 106 = .ok (.getfield 158, 3) := by decide +kernel
theorem dX5_bucket_109 : decode cX5_bucket 109 = .ok (.ireturn, 1) := by decide +kernel
theorem dX5_bucket_110 : decode cX5_bucket 110 = .ok (.aload 4, 2) := by decide +kernel
theorem dX5_bucket_112 : decode cX5_bucket 112 = .ok (.getfield 202, 3) := by decide +kernel
theorem dX5_bucket_115 : decode cX5_bucket 115 = .ok (.ireturn, 1) := by decide +kernel
theorem dX5_bucket_116 : decode cX5_bucket 116 = .ok (.iconst (-1), 1) := by decide +kernel
theorem dX5_bucket_117 : decode cX5_bucket 117 = .ok (.ireturn, 1) := by decide +kernel
theorem dX5_value_0 : decode cX5_value 0 = .ok (.iload_n 2, 1) := by decide +kernel
theorem dX5_value_1 : decode cX5_value 1 = .ok (.ifCond .lt 9, 3) := by decide +kernel
theorem dX5_value_4 : decode cX5_value 4 = .ok (.iload_n 2, 1) := by decide +kernel
theorem dX5_value_5 : decode cX5_value 5 = .ok (.bipush 32, 2) := by decide +kernel
theorem dX5_value_7 : decode cX5_value 7 = .ok (.if_icmp .lt 5, 3) := by decide +kernel
theorem dX5_value_10 : decode cX5_value 10 = .ok (.lconst 0, 1) := by decide +kernel
theorem dX5_value_11 : decode cX5_value 11 = .ok (.lreturn, 1) := by decide +kernel
theorem dX5_value_12 : decode cX5_value 12 = .ok (.aload_n 0, 1) := by decide +kernel
theorem dX5_value_13 : decode cX5_value 13 = .ok (.iload_n 1, 1) := by decide +kernel
theorem dX5_value_14 : decode cX5_value 14 = .ok (.iload_n 2, 1) := by decide +kernel
theorem dX5_value_15 : decode cX5_value 15 = .ok (.invokestatic 205, 3) := by decide +kernel
theorem dX5_value_18 : decode cX5_value 18 = .ok (.invokevirtual 194, 3) := by decide +kernel
theorem dX5_value_21 : decode cX5_value 21 = .ok (.astore_n 3, 1) := by decide +kernel
theorem dX5_value_22 : decode cX5_value 22 = .ok (.aload_n 3, 1) := by decide +kernel
theorem dX5_value_23 : decode cX5_value 23 = .ok (.ifnonnull 7, 3) := by decide +kernel
theorem dX5_value_26 : decode cX5_value 26 = .ok (.lconst 0, 1) := by decide +kernel
theorem dX5_value_27 : decode cX5_value 27 = .ok (.goto 12, 3) := by decide +kernel
theorem dX5_value_30 : decode cX5_value 30 = .ok (.aload_n 3, 1) := by decide +kernel
theorem dX5_value_31 : decode cX5_value 31 = .ok (.getfield 209, 3) := by decide +kernel
theorem dX5_value_34 : decode cX5_value 34 = .ok (.iload_n 2, 1) := by decide +kernel
theorem dX5_value_35 : decode cX5_value 35 = .ok (.invokestatic 213, 3) := by decide +kernel
theorem dX5_value_38 : decode cX5_value 38 = .ok (.laload, 1) := by decide +kernel
theorem dX5_value_39 : decode cX5_value 39 = .ok (.lreturn, 1) := by decide +kernel
theorem dX5_record_0 : decode cX5_record 0 = .ok (.aload_n 0, 1) := by decide +kernel
theorem dX5_record_1 : decode cX5_record 1 = .ok (.iload_n 1, 1) := by decide +kernel
theorem dX5_record_2 : decode cX5_record 2 = .ok (.iload_n 2, 1) := by decide +kernel
theorem dX5_record_3 : decode cX5_record 3 = .ok (.invokevirtual 194, 3) := by decide +kernel
theorem dX5_record_6 : decode cX5_record 6 = .ok (.astore 5, 2) := by decide +kernel
theorem dX5_record_8 : decode cX5_record 8 = .ok (.aload 5, 2) := by decide +kernel
theorem dX5_record_10 : decode cX5_record 10 = .ok (.ifnull 16, 3) := by decide +kernel
theorem dX5_record_13 : decode cX5_record 13 = .ok (.iload_n 3, 1) := by decide +kernel
theorem dX5_record_14 : decode cX5_record 14 = .ok (.ifCond .lt 12, 3) := by decide +kernel
theorem dX5_record_17 : decode cX5_record 17 = .ok (.iload_n 3, 1) := by decide +kernel
theorem dX5_record_18 : decode cX5_record 18 = .ok (.aload 5, 2) := by decide +kernel
theorem dX5_record_20 : decode cX5_record 20 = .ok (.getfield 202, 3) := by decide +kernel
theorem dX5_record_23 : decode cX5_record 23 = .ok (.if_icmp .lt 5, 3) := by decide +kernel
theorem dX5_record_26 : decode cX5_record 26 = .ok (.iconst (-1), 1) := by decide +kernel
theorem dX5_record_27 : decode cX5_record 27 = .ok (.ireturn, 1) := by decide +kernel
theorem dX5_record_28 : decode cX5_record 28 = .ok (.iload 4, 2) := by decide +kernel
theorem dX5_record_30 : decode cX5_record 30 = .ok (.tableswitch 50 0 2 #[26, 34, 42], 26) := by decide +kernel
theorem dX5_record_56 : decode cX5_record 56 = .ok (.aload 5, 2) := by decide +kernel
theorem dX5_record_58 : decode cX5_record 58 = .ok (.getfield 216, 3) := by decide +kernel
theorem dX5_record_61 : decode cX5_record 61 = .ok (.iload_n 3, 1) := by decide +kernel
theorem dX5_record_62 : decode cX5_record 62 = .ok (.iaload, 1) := by decide +kernel
theorem dX5_record_63 : decode cX5_record 63 = .ok (.ireturn, 1) := by decide +kernel
theorem dX5_record_64 : decode cX5_record 64 = .ok (.aload 5, 2) := by decide +kernel
theorem dX5_record_66 : decode cX5_record 66 = .ok (.getfield 219, 3) := by decide +kernel
theorem dX5_record_69 : decode cX5_record 69 = .ok (.iload_n 3, 1) := by decide +kernel
theorem dX5_record_70 : decode cX5_record 70 = .ok (.iaload, 1) := by decide +kernel
theorem dX5_record_71 : decode cX5_record 71 = .ok (.ireturn, 1) := by decide +kernel
theorem dX5_record_72 : decode cX5_record 72 = .ok (.aload 5, 2) := by decide +kernel
theorem dX5_record_74 : decode cX5_record 74 = .ok (.getfield 222, 3) := by decide +kernel
theorem dX5_record_77 : decode cX5_record 77 = .ok (.iload_n 3, 1) := by decide +kernel
theorem dX5_record_78 : decode cX5_record 78 = .ok (.iaload, 1) := by decide +kernel
theorem dX5_record_79 : decode cX5_record 79 = .ok (.ireturn, 1) := by decide +kernel
theorem dX5_record_80 : decode cX5_record 80 = .ok (.iconst (-1), 1) := by decide +kernel
theorem dX5_record_81 : decode cX5_record 81 = .ok (.ireturn, 1) := by decide +kernel
theorem dX5_client_0 : decode cX5_client 0 = .ok (.aload_n 0, 1) := by decide +kernel
theorem dX5_client_1 : decode cX5_client 1 = .ok (.iload_n 1, 1) := by decide +kernel
theorem dX5_client_2 : decode cX5_client 2 = .ok (.invokevirtual 38, 3) := by decide +kernel
theorem dX5_client_5 : decode cX5_client 5 = .ok (.astore_n 3, 1) := by decide +kernel
theorem dX5_client_6 : decode cX5_client 6 = .ok (.aload_n 3, 1) := by decide +kernel
theorem dX5_client_7 : decode cX5_client 7 = .ok (.ifnonnull 5, 3) := by decide +kernel
theorem dX5_client_10 : decode cX5_client 10 = .ok (.iconst (-1), 1) := by decide +kernel
theorem dX5_client_11 : decode cX5_client 11 = .ok (.ireturn, 1) := by decide +kernel
theorem dX5_client_12 : decode cX5_client 12 = .ok (.iload_n 2, 1) := by decide +kernel
theorem dX5_client_13 : decode cX5_client 13 = .ok (.bipush 10, 2) := by decide +kernel
theorem dX5_client_15 : decode cX5_client 15 = .ok (.if_icmp .lt 19, 3) := by decide +kernel
theorem dX5_client_18 : decode cX5_client 18 = .ok (.iload_n 2, 1) := by decide +kernel
theorem dX5_client_19 : decode cX5_client 19 = .ok (.bipush 18, 2) := by decide +kernel
theorem dX5_client_21 : decode cX5_client 21 = .ok (.if_icmp .ge 13, 3) := by decide +kernel
theorem dX5_client_24 : decode cX5_client 24 = .ok (.aload_n 3, 1) := by decide +kernel
theorem dX5_client_25 : decode cX5_client 25 = .ok (.getfield 225, 3) := by decide +kernel
theorem dX5_client_28 : decode cX5_client 28 = .ok (.iload_n 2, 1) := by decide +kernel
theorem dX5_client_29 : decode cX5_client 29 = .ok (.bipush 10, 2) := by decide +kernel
theorem dX5_client_31 : decode cX5_client 31 = .ok (.isub, 1) := by decide +kernel
theorem dX5_client_32 : decode cX5_client 32 = .ok (.iaload, 1) := by decide +kernel
theorem dX5_client_33 : decode cX5_client 33 = .ok (.ireturn, 1) := by decide +kernel
theorem dX5_client_34 : decode cX5_client 34 = .ok (.iload_n 2, 1) := by decide +kernel
theorem dX5_client_35 : decode cX5_client 35 = .ok (.tableswitch 75 0 5 #[37, 42, 47, 60, 65, 70], 37) := by decide +kernel
theorem dX5_client_72 : decode cX5_client 72 = .ok (.aload_n 3, 1) := by decide +kernel
theorem dX5_client_73 : decode cX5_client 73 = .ok (.getfield 45, 3) := by decide +kernel
theorem dX5_client_76 : decode cX5_client 76 = .ok (.ireturn, 1) := by decide +kernel
theorem dX5_client_77 : decode cX5_client 77 = .ok (.aload_n 3, 1) := by decide +kernel
theorem dX5_client_78 : decode cX5_client 78 = .ok (.getfield 54, 3) := by decide +kernel
theorem dX5_client_81 : decode cX5_client 81 = .ok (.ireturn, 1) := by decide +kernel
theorem dX5_client_82 : decode cX5_client 82 = .ok (.aload_n 0, 1) := by decide +kernel
theorem dX5_client_83 : decode cX5_client 83 = .ok (.iload_n 1, 1) := by decide +kernel
theorem dX5_client_84 : decode cX5_client 84 = .ok (.aload_n 3, 1) := by decide +kernel
theorem dX5_client_85 : decode cX5_client 85 = .ok (.getfield 45, 3) := by decide +kernel
theorem dX5_client_88 : decode cX5_client 88 = .ok (.invokevirtual 57, 3) := by decide +kernel
theorem dX5_client_91 : decode cX5_client 91 = .ok (.invokestatic 187, 3) := by decide +kernel
theorem dX5_client_94 : decode cX5_client 94 = .ok (.ireturn, 1) := by decide +kernel
theorem dX5_client_95 : decode cX5_client 95 = .ok (.aload_n 3, 1) := by decide +kernel
theorem dX5_client_96 : decode cX5_client 96 = .ok (.getfield 48, 3) := by decide +kernel
theorem dX5_client_99 : decode cX5_client 99 = .ok (.ireturn, 1) := by decide +kernel
theorem dX5_client_100 : decode cX5_client 100 = .ok (.aload_n 3, 1) := by decide +kernel
theorem dX5_client_101 : decode cX5_client 101 = .ok (.invokevirtual 95, 3) := by decide +kernel
theorem dX5_client_104 : decode cX5_client 104 = .ok (.ireturn, 1) := by decide +kernel
theorem dX5_client_105 : decode cX5_client 105 = .ok (.aload_n 3, 1) := by decide +kernel
theorem dX5_client_106 : decode cX5_client 106 = .ok (.invokevirtual 61, 3) := by decide +kernel
theorem dX5_client_109 : decode cX5_client 109 = .ok (.ireturn, 1) := by decide +kernel
theorem dX5_client_110 : decode cX5_client 110 = .ok (.iconst (-1), 1) := by decide +kernel
theorem dX5_client_111 : decode cX5_client 111 = .ok (.ireturn, 1) := by decide +kernel
theorem dX5_state_0 : decode cX5_state 0 = .ok (.aload_n 0, 1) := by decide +kernel
theorem dX5_state_1 : decode cX5_state 1 = .ok (.iload_n 1, 1) := by decide +kernel
theorem dX5_state_2 : decode cX5_state 2 = .ok (.invokevirtual 38, 3) := by decide +kernel
theorem dX5_state_5 : decode cX5_state 5 = .ok (.astore_n 3, 1) := by decide +kernel
theorem dX5_state_6 : decode cX5_state 6 = .ok (.aload_n 3, 1) := by decide +kernel
theorem dX5_state_7 : decode cX5_state 7 = .ok (.ifnull 11, 3) := by decide +kernel
theorem dX5_state_10 : decode cX5_state 10 = .ok (.aload_n 3, 1) := by decide +kernel
theorem dX5_state_11 : decode cX5_state 11 = .ok (.iload_n 2, 1) := by decide +kernel
theorem dX5_state_12 : decode cX5_state 12 = .ok (.invokevirtual 77, 3) := by decide +kernel
theorem dX5_state_15 : decode cX5_state 15 = .ok (.ifCond .ne 5, 3) := by decide +kernel
theorem dX5_state_18 : decode cX5_state 18 = .ok (.iconst (-1), 1) := by decide +kernel
theorem dX5_state_19 : decode cX5_state 19 = .ok (.ireturn, 1) := by decide +kernel
theorem dX5_state_20 : decode cX5_state 20 = .ok (.aload_n 3, 1) := by decide +kernel
theorem dX5_state_21 : decode cX5_state 21 = .ok (.getfield 81, 3) := by decide +kernel
theorem dX5_state_24 : decode cX5_state 24 = .ok (.iload_n 2, 1) := by decide +kernel
theorem dX5_state_25 : decode cX5_state 25 = .ok (.iaload, 1) := by decide +kernel
theorem dX5_state_26 : decode cX5_state 26 = .ok (.ireturn, 1) := by decide +kernel
theorem dX5_result_0 : decode cX5_result 0 = .ok (.aload_n 0, 1) := by decide +kernel
theorem dX5_result_1 : decode cX5_result 1 = .ok (.iload_n 1, 1) := by decide +kernel
theorem dX5_result_2 : decode cX5_result 2 = .ok (.invokevirtual 38, 3) := by decide +kernel
theorem dX5_result_5 : decode cX5_result 5 = .ok (.astore_n 3, 1) := by decide +kernel
theorem dX5_result_6 : decode cX5_result 6 = .ok (.aload_n 3, 1) := by decide +kernel
theorem dX5_result_7 : decode cX5_result 7 = .ok (.ifnull 21, 3) := by decide +kernel
theorem dX5_result_10 : decode cX5_result 10 = .ok (.aload_n 3, 1) := by decide +kernel
theorem dX5_result_11 : decode cX5_result 11 = .ok (.iload_n 2, 1) := by decide +kernel
theorem dX5_result_12 : decode cX5_result 12 = .ok (.invokevirtual 77, 3) := by decide +kernel
theorem dX5_result_15 : decode cX5_result 15 = .ok (.ifCond .eq 13, 3) := by decide +kernel
theorem dX5_result_18 : decode cX5_result 18 = .ok (.aload_n 3, 1) := by decide +kernel
theorem dX5_result_19 : decode cX5_result 19 = .ok (.getfield 81, 3) := by decide +kernel
theorem dX5_result_22 : decode cX5_result 22 = .ok (.iload_n 2, 1) := by decide +kernel
theorem dX5_result_23 : decode cX5_result 23 = .ok (.iaload, 1) := by decide +kernel
theorem dX5_result_24 : decode cX5_result 24 = .ok (.iconst 1, 1) := by decide +kernel
theorem dX5_result_25 : decode cX5_result 25 = .ok (.if_icmp .eq 5, 3) := by decide +kernel
theorem dX5_result_28 : decode cX5_result 28 = .ok (.lconst 0, 1) := by decide +kernel
theorem dX5_result_29 : decode cX5_result 29 = .ok (.lreturn, 1) := by decide +kernel
theorem dX5_result_30 : decode cX5_result 30 = .ok (.aload_n 3, 1) := by decide +kernel
theorem dX5_result_31 : decode cX5_result 31 = .ok (.getfield 228, 3) := by decide +kernel
theorem dX5_result_34 : decode cX5_result 34 = .ok (.iload_n 2, 1) := by decide +kernel
theorem dX5_result_35 : decode cX5_result 35 = .ok (.laload, 1) := by decide +kernel
theorem dX5_result_36 : decode cX5_result 36 = .ok (.lreturn, 1) := by decide +kernel
theorem dX5_letter_0 : decode cX5_letter 0 = .ok (.aload_n 0, 1) := by decide +kernel
theorem dX5_letter_1 : decode cX5_letter 1 = .ok (.getfield 34, 3) := by decide +kernel
theorem dX5_letter_4 : decode cX5_letter 4 = .ok (.iload_n 1, 1) := by decide +kernel
theorem dX5_letter_5 : decode cX5_letter 5 = .ok (.invokevirtual 100, 3) := by decide +kernel
theorem dX5_letter_8 : decode cX5_letter 8 = .ok (.astore_n 3, 1) := by decide +kernel
theorem dX5_letter_9 : decode cX5_letter 9 = .ok (.aload_n 3, 1) := by decide +kernel
theorem dX5_letter_10 : decode cX5_letter 10 = .ok (.ifnonnull 7, 3) := by decide +kernel
theorem dX5_letter_13 : decode cX5_letter 13 = .ok (.iconst (-1), 1) := by decide +kernel
theorem dX5_letter_14 : decode cX5_letter 14 = .ok (.goto 8, 3) := by decide +kernel
theorem dX5_letter_17 : decode cX5_letter 17 = .ok (.aload_n 3, 1) := by decide +kernel
theorem dX5_letter_18 : decode cX5_letter 18 = .ok (.iload_n 2, 1) := by decide +kernel
theorem dX5_letter_19 : decode cX5_letter 19 = .ok (.invokevirtual 231, 3) := by decide +kernel
theorem dX5_letter_22 : decode cX5_letter 22 = .ok (.ireturn, 1) := by decide +kernel
theorem dX5_count_0 : decode cX5_count 0 = .ok (.iload_n 1, 1) := by decide +kernel
theorem dX5_count_1 : decode cX5_count 1 = .ok (.tableswitch 63 0 4 #[35, 43, 48, 53, 58], 35) := by decide +kernel
theorem dX5_count_36 : decode cX5_count 36 = .ok (.aload_n 0, 1) := by decide +kernel
theorem dX5_count_37 : decode cX5_count 37 = .ok (.getfield 34, 3) := by decide +kernel
theorem dX5_count_40 : decode cX5_count 40 = .ok (.getfield 137, 3) := by decide +kernel
theorem dX5_count_43 : decode cX5_count 43 = .ok (.ireturn, 1) := by decide +kernel
theorem dX5_count_44 : decode cX5_count 44 = .ok (.aload_n 0, 1) := by decide +kernel
theorem dX5_count_45 : decode cX5_count 45 = .ok (.getfield 120, 3) := by decide +kernel
theorem dX5_count_48 : decode cX5_count 48 = .ok (.ireturn, 1) := by decide +kernel
theorem dX5_count_49 : decode cX5_count 49 = .ok (.aload_n 0, 1) := by decide +kernel
theorem dX5_count_50 : decode cX5_count 50 = .ok (.getfield 234, 3) := by decide +kernel
theorem dX5_count_53 : decode cX5_count 53 = .ok (.ireturn, 1) := by decide +kernel
theorem dX5_count_54 : decode cX5_count 54 = .ok (.aload_n 0, 1) := by decide +kernel
theorem dX5_count_55 : decode cX5_count 55 = .ok (.getfield 237, 3) := by decide +kernel
theorem dX5_count_58 : decode cX5_count 58 = .ok (.ireturn, 1) := by decide +kernel
theorem dX5_count_59 : decode cX5_count 59 = .ok (.aload_n 0, 1) := by decide +kernel
theorem dX5_count_60 : decode cX5_count 60 = .ok (.getfield 51, 3) := by decide +kernel
theorem dX5_count_63 : decode cX5_count 63 = .ok (.ireturn, 1) := by decide +kernel
theorem dX5_count_64 : decode cX5_count 64 = .ok (.iconst (-1), 1) := by decide +kernel
theorem dX5_count_65 : decode cX5_count 65 = .ok (.ireturn, 1) := by decide +kernel
theorem dX5_clientAt_0 : decode cX5_clientAt 0 = .ok (.iload_n 1, 1) := by decide +kernel
theorem dX5_clientAt_1 : decode cX5_clientAt 1 = .ok (.ifCond .lt 21, 3) := by decide +kernel
theorem dX5_clientAt_4 : decode cX5_clientAt 4 = .ok (.iload_n 1, 1) := by decide +kernel
theorem dX5_clientAt_5 : decode cX5_clientAt 5 = .ok (.aload_n 0, 1) := by decide +kernel
theorem dX5_clientAt_6 : decode cX5_clientAt 6 = .ok (.getfield 24, 3) := by decide +kernel
theorem dX5_clientAt_9 : decode cX5_clientAt 9 = .ok (.arraylength, 1) := by decide +kernel
theorem dX5_clientAt_10 : decode cX5_clientAt 10 = .ok (.if_icmp .ge 12, 3) := by decide +kernel
theorem dX5_clientAt_13 : decode cX5_clientAt 13 = .ok (.aload_n 0, 1) := by decide +kernel
theorem dX5_clientAt_14 : decode cX5_clientAt 14 = .ok (.getfield 24, 3) := by decide +kernel
theorem dX5_clientAt_17 : decode cX5_clientAt 17 = .ok (.iload_n 1, 1) := by decide +kernel
theorem dX5_clientAt_18 : decode cX5_clientAt 18 = .ok (.aaload, 1) := by decide +kernel
theorem dX5_clientAt_19 : decode cX5_clientAt 19 = .ok (.goto 4, 3) := by decide +kernel
theorem dX5_clientAt_22 : decode cX5_clientAt 22 = .ok (.aconst_null, 1) := by decide +kernel
theorem dX5_clientAt_23 : decode cX5_clientAt 23 = .ok (.areturn, 1) := by decide +kernel
theorem dX5_serverAt_0 : decode cX5_serverAt 0 = .ok (.iload_n 1, 1) := by decide +kernel
theorem dX5_serverAt_1 : decode cX5_serverAt 1 = .ok (.ifCond .lt 21, 3) := by decide +kernel
theorem dX5_serverAt_4 : decode cX5_serverAt 4 = .ok (.iload_n 1, 1) := by decide +kernel
theorem dX5_serverAt_5 : decode cX5_serverAt 5 = .ok (.aload_n 0, 1) := by decide +kernel
theorem dX5_serverAt_6 : decode cX5_serverAt 6 = .ok (.getfield 15, 3) := by decide +kernel
theorem dX5_serverAt_9 : decode cX5_serverAt 9 = .ok (.arraylength, 1) := by decide +kernel
theorem dX5_serverAt_10 : decode cX5_serverAt 10 = .ok (.if_icmp .ge 12, 3) := by decide +kernel
theorem dX5_serverAt_13 : decode cX5_serverAt 13 = .ok (.aload_n 0, 1) := by decide +kernel
theorem dX5_serverAt_14 : decode cX5_serverAt 14 = .ok (.getfield 15, 3) := by decide +kernel
theorem dX5_serverAt_17 : decode cX5_serverAt 17 = .ok (.iload_n 1, 1) := by decide +kernel
theorem dX5_serverAt_18 : decode cX5_serverAt 18 = .ok (.aaload, 1) := by decide +kernel
theorem dX5_serverAt_19 : decode cX5_serverAt 19 = .ok (.goto 4, 3) := by decide +kernel
theorem dX5_serverAt_22 : decode cX5_serverAt 22 = .ok (.aconst_null, 1) := by decide +kernel
theorem dX5_serverAt_23 : decode cX5_serverAt 23 = .ok (.areturn, 1) := by decide +kernel
theorem dX5_bucketAt_0 : decode cX5_bucketAt 0 = .ok (.aload_n 0, 1) := by decide +kernel
theorem dX5_bucketAt_1 : decode cX5_bucketAt 1 = .ok (.iload_n 1, 1) := by decide +kernel
theorem dX5_bucketAt_2 : decode cX5_bucketAt 2 = .ok (.invokevirtual 85, 3) := by decide +kernel
theorem dX5_bucketAt_5 : decode cX5_bucketAt 5 = .ok (.astore_n 3, 1) := by decide +kernel
theorem dX5_bucketAt_6 : decode cX5_bucketAt 6 = .ok (.aload_n 3, 1) := by decide +kernel
theorem dX5_bucketAt_7 : decode cX5_bucketAt 7 = .ok (.ifnonnull 7, 3) := by decide +kernel
theorem dX5_bucketAt_10 : decode cX5_bucketAt 10 = .ok (.aconst_null, 1) := by decide +kernel
theorem dX5_bucketAt_11 : decode cX5_bucketAt 11 = .ok (.goto 8, 3) := by decide +kernel
theorem dX5_bucketAt_14 : decode cX5_bucketAt 14 = .ok (.aload_n 3, 1) := by decide +kernel
theorem dX5_bucketAt_15 : decode cX5_bucketAt 15 = .ok (.iload_n 2, 1) := by decide +kernel
theorem dX5_bucketAt_16 : decode cX5_bucketAt 16 = .ok (.invokevirtual 146, 3) := by decide +kernel
theorem dX5_bucketAt_19 : decode cX5_bucketAt 19 = .ok (.areturn, 1) := by decide +kernel
theorem dX5_isLive_0 : decode cX5_isLive 0 = .ok (.aload_n 0, 1) := by decide +kernel
theorem dX5_isLive_1 : decode cX5_isLive 1 = .ok (.iload_n 1, 1) := by decide +kernel
theorem dX5_isLive_2 : decode cX5_isLive 2 = .ok (.invokevirtual 38, 3) := by decide +kernel
theorem dX5_isLive_5 : decode cX5_isLive 5 = .ok (.astore_n 3, 1) := by decide +kernel
theorem dX5_isLive_6 : decode cX5_isLive 6 = .ok (.aload_n 3, 1) := by decide +kernel
theorem dX5_isLive_7 : decode cX5_isLive 7 = .ok (.ifnull 33, 3) := by decide +kernel
theorem dX5_isLive_10 : decode cX5_isLive 10 = .ok (.aload_n 3, 1) := by decide +kernel
theorem dX5_isLive_11 : decode cX5_isLive 11 = .ok (.getfield 45, 3) := by decide +kernel
theorem dX5_isLive_14 : decode cX5_isLive 14 = .ok (.ifCond .eq 26, 3) := by decide +kernel
theorem dX5_isLive_17 : decode cX5_isLive 17 = .ok (.aload_n 3, 1) := by decide +kernel
theorem dX5_isLive_18 : decode cX5_isLive 18 = .ok (.getfield 45, 3) := by decide +kernel
theorem dX5_isLive_21 : decode cX5_isLive 21 = .ok (.iload_n 2, 1) := by decide +kernel
theorem dX5_isLive_22 : decode cX5_isLive 22 = .ok (.if_icmp .ne 18, 3) := by decide +kernel
theorem dX5_isLive_25 : decode cX5_isLive 25 = .ok (.aload_n 0, 1) := by decide +kernel
theorem dX5_isLive_26 : decode cX5_isLive 26 = .ok (.getfield 51, 3) := by decide +kernel
theorem dX5_isLive_29 : decode cX5_isLive 29 = .ok (.aload_n 3, 1) := by decide +kernel
theorem dX5_isLive_30 : decode cX5_isLive 30 = .ok (.getfield 54, 3) := by decide +kernel
theorem dX5_isLive_33 : decode cX5_isLive 33 = .ok (.if_icmp .gt 7, 3) := by decide +kernel
theorem dX5_isLive_36 : decode cX5_isLive 36 = .ok (.iconst 1, 1) := by decide +kernel
theorem dX5_isLive_37 : decode cX5_isLive 37 = .ok (.goto 4, 3) := by decide +kernel
theorem dX5_isLive_40 : decode cX5_isLive 40 = .ok (.iconst 0, 1) := by decide +kernel
theorem dX5_isLive_41 : decode cX5_isLive 41 = .ok (.ireturn, 1) := by decide +kernel
theorem dX5_send_0 : decode cX5_send 0 = .ok (.aload_n 1, 1) := by decide +kernel
theorem dX5_send_1 : decode cX5_send 1 = .ok (.ifnull 24, 3) := by decide +kernel
theorem dX5_send_4 : decode cX5_send 4 = .ok (.aload_n 0, 1) := by decide +kernel
theorem dX5_send_5 : decode cX5_send 5 = .ok (.getfield 34, 3) := by decide +kernel
theorem dX5_send_8 : decode cX5_send 8 = .ok (.aload_n 1, 1) := by decide +kernel
theorem dX5_send_9 : decode cX5_send 9 = .ok (.invokevirtual 127, 3) := by decide +kernel
theorem dX5_send_12 : decode cX5_send 12 = .ok (.ifCond .ne 13, 3) := by decide +kernel
theorem dX5_send_15 : decode cX5_send 15 = .ok (.aload_n 0, 1) := by decide +kernel
theorem dX5_send_16 : decode cX5_send 16 = .ok (.dup, 1) := by decide +kernel
theorem dX5_send_17 : decode cX5_send 17 = .ok (.getfield 120, 3) := by decide +kernel
theorem dX5_send_20 : decode cX5_send 20 = .ok (.iconst 1, 1) := by decide +kernel
theorem dX5_send_21 : decode cX5_send 21 = .ok (.iadd, 1) := by decide +kernel
theorem dX5_send_22 : decode cX5_send 22 = .ok (.putfield 120, 3) := by decide +kernel
theorem dX5_send_25 : decode cX5_send 25 = .ok (.return_, 1) := by decide +kernel
theorem dX5_sendFrom_0 : decode cX5_sendFrom 0 = .ok (.aload_n 1, 1) := by decide +kernel
theorem dX5_sendFrom_1 : decode cX5_sendFrom 1 = .ok (.getfield 161, 3) := by decide +kernel
theorem dX5_sendFrom_4 : decode cX5_sendFrom 4 = .ok (.ifCond .eq 10, 3) := by decide +kernel
theorem dX5_sendFrom_7 : decode cX5_sendFrom 7 = .ok (.aload_n 0, 1) := by decide +kernel
theorem dX5_sendFrom_8 : decode cX5_sendFrom 8 = .ok (.getfield 34, 3) := by decide +kernel
theorem dX5_sendFrom_11 : decode cX5_sendFrom 11 = .ok (.goto 7, 3) := by decide +kernel
theorem dX5_sendFrom_14 : decode cX5_sendFrom 14 = .ok (.aload_n 1, 1) := by decide +kernel
theorem dX5_sendFrom_15 : decode cX5_sendFrom 15 = .ok (.getfield 134, 3) := by decide +kernel
theorem dX5_sendFrom_18 : decode cX5_sendFrom 18 = .ok (.astore_n 3, 1) := by decide +kernel
theorem dX5_sendFrom_19 : decode cX5_sendFrom 19 = .ok (.aload_n 3, 1) := by decide +kernel
theorem dX5_sendFrom_20 : decode cX5_sendFrom 20 = .ok (.aload_n 2, 1) := by decide +kernel
theorem dX5_sendFrom_21 : decode cX5_sendFrom 21 = .ok (.invokevirtual 127, 3) := by decide +kernel
theorem dX5_sendFrom_24 : decode cX5_sendFrom 24 = .ok (.ifCond .ne 13, 3) := by decide +kernel
theorem dX5_sendFrom_27 : decode cX5_sendFrom 27 = .ok (.aload_n 0, 1) := by decide +kernel
theorem dX5_sendFrom_28 : decode cX5_sendFrom 28 = .ok (.dup, 1) := by decide +kernel
theorem dX5_sendFrom_29 : decode cX5_sendFrom 29 = .ok (.getfield 120, 3) := by decide +kernel
theorem dX5_sendFrom_32 : decode cX5_sendFrom 32 = .ok (.iconst 1, 1) := by decide +kernel
theorem dX5_sendFrom_33 : decode cX5_sendFrom 33 = .ok (.iadd, 1) := by decide +kernel
theorem dX5_sendFrom_34 : decode cX5_sendFrom 34 = .ok (.putfield 120, 3) := by decide +kernel
theorem dX5_sendFrom_37 : decode cX5_sendFrom 37 = .ok (.return_, 1) := by decide +kernel
theorem dX5_takeAnswer_0 : decode cX5_takeAnswer 0 = .ok (.aload_n 0, 1) := by decide +kernel
theorem dX5_takeAnswer_1 : decode cX5_takeAnswer 1 = .ok (.aload_n 1, 1) := by decide +kernel
theorem dX5_takeAnswer_2 : decode cX5_takeAnswer 2 = .ok (.getfield 113, 3) := by decide +kernel
theorem dX5_takeAnswer_5 : decode cX5_takeAnswer 5 = .ok (.invokevirtual 38, 3) := by decide +kernel
theorem dX5_takeAnswer_8 : decode cX5_takeAnswer 8 = .ok (.astore_n 2, 1) := by decide +kernel
theorem dX5_takeAnswer_9 : decode cX5_takeAnswer 9 = .ok (.aload_n 2, 1) := by decide +kernel
theorem dX5_takeAnswer_10 : decode cX5_takeAnswer 10 = .ok (.ifnull 37, 3) := by decide +kernel
theorem dX5_takeAnswer_13 : decode cX5_takeAnswer 13 = .ok (.aload_n 2, 1) := by decide +kernel
theorem dX5_takeAnswer_14 : decode cX5_takeAnswer 14 = .ok (.getfield 45, 3) := by decide +kernel
theorem dX5_takeAnswer_17 : decode cX5_takeAnswer 17 = .ok (.aload_n 1, 1) := by decide +kernel
theorem dX5_takeAnswer_18 : decode cX5_takeAnswer 18 = .ok (.getfield 94, 3) := by decide +kernel
theorem dX5_takeAnswer_21 : decode cX5_takeAnswer 21 = .ok (.if_icmp .ne 26, 3) := by decide +kernel
theorem dX5_takeAnswer_24 : decode cX5_takeAnswer 24 = .ok (.aload_n 2, 1) := by decide +kernel
theorem dX5_takeAnswer_25 : decode cX5_takeAnswer 25 = .ok (.aload_n 1, 1) := by decide +kernel
theorem dX5_takeAnswer_26 : decode cX5_takeAnswer 26 = .ok (.getfield 240, 3) := by decide +kernel
theorem dX5_takeAnswer_29 : decode cX5_takeAnswer 29 = .ok (.invokevirtual 77, 3) := by decide +kernel
theorem dX5_takeAnswer_32 : decode cX5_takeAnswer 32 = .ok (.ifCond .eq 15, 3) := by decide +kernel
theorem dX5_takeAnswer_35 : decode cX5_takeAnswer 35 = .ok (.aload_n 2, 1) := by decide +kernel
theorem dX5_takeAnswer_36 : decode cX5_takeAnswer 36 = .ok (.getfield 81, 3) := by decide +kernel
theorem dX5_takeAnswer_39 : decode cX5_takeAnswer 39 = .ok (.aload_n 1, 1) := by decide +kernel
theorem dX5_takeAnswer_40 : decode cX5_takeAnswer 40 = .ok (.getfield 240, 3) := by decide +kernel
theorem dX5_takeAnswer_43 : decode cX5_takeAnswer 43 = .ok (.iaload, 1) := by decide +kernel
theorem dX5_takeAnswer_44 : decode cX5_takeAnswer 44 = .ok (.ifCond .eq 4, 3) := by decide +kernel
theorem dX5_takeAnswer_47 : decode cX5_takeAnswer 47 = .ok (.return_, 1) := by decide +kernel
theorem dX5_takeAnswer_48 : decode cX5_takeAnswer 48 = .ok (.aload_n 1, 1) := by decide +kernel
theorem dX5_takeAnswer_49 : decode cX5_takeAnswer 49 = .ok (.getfield 243, 3) := by decide +kernel
theorem dX5_takeAnswer_52 : decode cX5_takeAnswer 52 = .ok (.ifCond .ne 39, 3) := by decide +kernel
theorem dX5_takeAnswer_55 : decode cX5_takeAnswer 55 = .ok (.aload_n 2, 1) := by decide +kernel
theorem dX5_takeAnswer_56 : decode cX5_takeAnswer 56 = .ok (.getfield 81, 3) := by decide +kernel
theorem dX5_takeAnswer_59 : decode cX5_takeAnswer 59 = .ok (.aload_n 1, 1) := by decide +kernel
theorem dX5_takeAnswer_60 : decode cX5_takeAnswer 60 = .ok (.getfield 240, 3) := by decide +kernel
theorem dX5_takeAnswer_63 : decode cX5_takeAnswer 63 = .ok (.iconst 1, 1) := by decide +kernel
theorem dX5_takeAnswer_64 : decode cX5_takeAnswer 64 = .ok (.iastore, 1) := by decide +kernel
theorem dX5_takeAnswer_65 : decode cX5_takeAnswer 65 = .ok (.aload_n 2, 1) := by decide +kernel
theorem dX5_takeAnswer_66 : decode cX5_takeAnswer 66 = .ok (.getfield 228, 3) := by decide +kernel
theorem dX5_takeAnswer_69 : decode cX5_takeAnswer 69 = .ok (.aload_n 1, 1) := by decide +kernel
theorem dX5_takeAnswer_70 : decode cX5_takeAnswer 70 = .ok (.getfield 240, 3) := by decide +kernel
theorem dX5_takeAnswer_73 : decode cX5_takeAnswer 73 = .ok (.aload_n 1, 1) := by decide +kernel
theorem dX5_takeAnswer_74 : decode cX5_takeAnswer 74 = .ok (.getfield 246, 3) := by decide +kernel
theorem dX5_takeAnswer_77 : decode cX5_takeAnswer 77 = .ok (.lastore, 1) := by decide +kernel
theorem dX5_takeAnswer_78 : decode cX5_takeAnswer 78 = .ok (.aload_n 0, 1) := by decide +kernel
theorem dX5_takeAnswer_79 : decode cX5_takeAnswer 79 = .ok (.dup, 1) := by decide +kernel
theorem dX5_takeAnswer_80 : decode cX5_takeAnswer 80 = .ok (.getfield 237, 3) := by decide +kernel
theorem dX5_takeAnswer_83 : decode cX5_takeAnswer 83 = .ok (.iconst 1, 1) := by decide +kernel
theorem dX5_takeAnswer_84 : decode cX5_takeAnswer 84 = .ok (.iadd, 1) := by decide +kernel
theorem dX5_takeAnswer_85 : decode cX5_takeAnswer 85 = .ok (.putfield 237, 3) := by decide +kernel
theorem dX5_takeAnswer_88 : decode cX5_takeAnswer 88 = .ok (.goto 48, 3) := by decide +kernel
theorem dX5_takeAnswer_91 : decode cX5_takeAnswer 91 = .ok (.aload_n 1, 1) := by decide +kernel
theorem dX5_takeAnswer_92 : decode cX5_takeAnswer 92 = .ok (.getfield 243, 3) := by decide +kernel
theorem dX5_takeAnswer_95 : decode cX5_takeAnswer 95 = .ok (.iconst 1, 1) := by decide +kernel
theorem dX5_takeAnswer_96 : decode cX5_takeAnswer 96 = .ok (.if_icmp .ne 28, 3) := by decide +kernel
theorem dX5_takeAnswer_99 : decode cX5_takeAnswer 99 = .ok (.aload_n 2, 1) := by decide +kernel
theorem dX5_takeAnswer_100 : decode cX5_takeAnswer 100 = .ok (.getfield 225, 3) := by decide +kernel
theorem dX5_takeAnswer_103 : decode cX5_takeAnswer 103 = .ok (.aload_n 2, 1) := by decide +kernel
theorem dX5_takeAnswer_104 : decode cX5_takeAnswer 104 = .ok (.getfield 250, 3) := by decide +kernel
theorem dX5_takeAnswer_107 : decode cX5_takeAnswer 107 = .ok (.aload_n 1, 1) := by decide +kernel
theorem dX5_takeAnswer_108 : decode cX5_takeAnswer 108 = .ok (.getfield 240, 3) := by decide +kernel
theorem dX5_takeAnswer_111 : decode cX5_takeAnswer 111 = .ok (.iaload, 1) := by decide +kernel
theorem dX5_takeAnswer_112 : decode cX5_takeAnswer 112 = .ok (.invokestatic 205, 3) := by decide +kernel
theorem dX5_takeAnswer_115 : decode cX5_takeAnswer 115 = .ok (.aload_n 1, 1) := by decide +kernel
theorem dX5_takeAnswer_116 : decode cX5_takeAnswer 116 = .ok (.getfield 246, 3) := by decide +kernel
theorem dX5_takeAnswer_119 : decode cX5_takeAnswer 119 = .ok (.l2i, 1) := by decide +kernel
theorem dX5_takeAnswer_120 : decode cX5_takeAnswer 120 = .ok (.iastore, 1) := by decide +kernel
theorem dX5_takeAnswer_121 : decode cX5_takeAnswer 121 = .ok (.goto 15, 3) := by decide +kernel
theorem dX5_takeAnswer_124 : decode cX5_takeAnswer 124 = .ok (.aload_n 1, 1) := by decide +kernel
theorem dX5_takeAnswer_125 : decode cX5_takeAnswer 125 = .ok (.getfield 243, 3) := by decide +kernel
theorem dX5_takeAnswer_128 : decode cX5_takeAnswer 128 = .ok (.iconst 3, 1) := by decide +kernel
theorem dX5_takeAnswer_129 : decode cX5_takeAnswer 129 = .ok (.if_icmp .ne 7, 3) := by decide +kernel
theorem dX5_takeAnswer_132 : decode cX5_takeAnswer 132 = .ok (.aload_n 2, 1) := by decide +kernel
theorem dX5_takeAnswer_133 : decode cX5_takeAnswer 133 = .ok (.invokevirtual 253, 3) := by decide +kernel
theorem dX5_takeAnswer_136 : decode cX5_takeAnswer 136 = .ok (.return_, 1) := by decide +kernel
theorem dX5_takeAtServer_0 : decode cX5_takeAtServer 0 = .ok (.aload_n 2, 1) := by decide +kernel
theorem dX5_takeAtServer_1 : decode cX5_takeAtServer 1 = .ok (.getfield 107, 3) := by decide +kernel
theorem dX5_takeAtServer_4 : decode cX5_takeAtServer 4 = .ok (.tableswitch 72 1 5 #[36, 72, 45, 54, 63], 36) := by decide +kernel
theorem dX5_takeAtServer_40 : decode cX5_takeAtServer 40 = .ok (.aload_n 0, 1) := by decide +kernel
theorem dX5_takeAtServer_41 : decode cX5_takeAtServer 41 = .ok (.aload_n 1, 1) := by decide +kernel
theorem dX5_takeAtServer_42 : decode cX5_takeAtServer 42 = .ok (.aload_n 2, 1) := by decide +kernel
theorem dX5_takeAtServer_43 : decode cX5_takeAtServer 43 = .ok (.invokevirtual 256, 3) := by decide +kernel
theorem dX5_takeAtServer_46 : decode cX5_takeAtServer 46 = .ok (.goto 30, 3) := by decide +kernel
theorem dX5_takeAtServer_49 : decode cX5_takeAtServer 49 = .ok (.aload_n 0, 1) := by decide +kernel
theorem dX5_takeAtServer_50 : decode cX5_takeAtServer 50 = .ok (.aload_n 1, 1) := by decide +kernel
theorem dX5_takeAtServer_51 : decode cX5_takeAtServer 51 = .ok (.aload_n 2, 1) := by decide +kernel
theorem dX5_takeAtServer_52 : decode cX5_takeAtServer 52 = .ok (.invokevirtual 259, 3) := by decide +kernel
theorem dX5_takeAtServer_55 : decode cX5_takeAtServer 55 = .ok (.goto 21, 3) := by decide +kernel
theorem dX5_takeAtServer_58 : decode cX5_takeAtServer 58 = .ok (.aload_n 0, 1) := by decide +kernel
theorem dX5_takeAtServer_59 : decode cX5_takeAtServer 59 = .ok (.aload_n 1, 1) := by decide +kernel
theorem dX5_takeAtServer_60 : decode cX5_takeAtServer 60 = .ok (.aload_n 2, 1) := by decide +kernel
theorem dX5_takeAtServer_61 : decode cX5_takeAtServer 61 = .ok (.invokevirtual 262, 3) := by decide +kernel
theorem dX5_takeAtServer_64 : decode cX5_takeAtServer 64 = .ok (.goto 12, 3) := by decide +kernel
theorem dX5_takeAtServer_67 : decode cX5_takeAtServer 67 = .ok (.aload_n 0, 1) := by decide +kernel
theorem dX5_takeAtServer_68 : decode cX5_takeAtServer 68 = .ok (.aload_n 1, 1) := by decide +kernel
theorem dX5_takeAtServer_69 : decode cX5_takeAtServer 69 = .ok (.aload_n 2, 1) := by decide +kernel
theorem dX5_takeAtServer_70 : decode cX5_takeAtServer 70 = .ok (.invokevirtual 265, 3) := by decide +kernel
theorem dX5_takeAtServer_73 : decode cX5_takeAtServer 73 = .ok (.goto 3, 3) := by decide +kernel
theorem dX5_takeAtServer_76 : decode cX5_takeAtServer 76 = .ok (.return_, 1) := by decide +kernel
theorem dX5_takeRequest_0 : decode cX5_takeRequest 0 = .ok (.aload_n 1, 1) := by decide +kernel
theorem dX5_takeRequest_1 : decode cX5_takeRequest 1 = .ok (.aload_n 2, 1) := by decide +kernel
theorem dX5_takeRequest_2 : decode cX5_takeRequest 2 = .ok (.getfield 268, 3) := by decide +kernel
theorem dX5_takeRequest_5 : decode cX5_takeRequest 5 = .ok (.invokestatic 205, 3) := by decide +kernel
theorem dX5_takeRequest_8 : decode cX5_takeRequest 8 = .ok (.invokevirtual 146, 3) := by decide +kernel
theorem dX5_takeRequest_11 : decode cX5_takeRequest 11 = .ok (.astore_n 3, 1) := by decide +kernel
theorem dX5_takeRequest_12 : decode cX5_takeRequest 12 = .ok (.aload_n 3, 1) := by decide +kernel
theorem dX5_takeRequest_13 : decode cX5_takeRequest 13 = .ok (.ifnonnull 4, 3) := by decide +kernel
theorem dX5_takeRequest_16 : decode cX5_takeRequest 16 = .ok (.return_, 1) := by decide +kernel
theorem dX5_takeRequest_17 : decode cX5_takeRequest 17 = .ok (.aload_n 0, 1) := by decide +kernel
theorem dX5_takeRequest_18 : decode cX5_takeRequest 18 = .ok (.aload_n 2, 1) := by decide +kernel
theorem dX5_takeRequest_19 : decode cX5_takeRequest 19 = .ok (.getfield 271, 3) := by decide +kernel
theorem dX5_takeRequest_22 : decode cX5_takeRequest 22 = .ok (.aload_n 2, 1) := by decide +kernel
theorem dX5_takeRequest_23 : decode cX5_takeRequest 23 = .ok (.getfield 94, 3) := by decide +kernel
theorem dX5_takeRequest_26 : decode cX5_takeRequest 26 = .ok (.invokevirtual 57, 3) := by decide +kernel
theorem dX5_takeRequest_29 : decode cX5_takeRequest 29 = .ok (.ifCond .ne 14, 3) := by decide +kernel
theorem dX5_takeRequest_32 : decode cX5_takeRequest 32 = .ok (.aload_n 0, 1) := by decide +kernel
theorem dX5_takeRequest_33 : decode cX5_takeRequest 33 = .ok (.aload_n 1, 1) := by decide +kernel
theorem dX5_takeRequest_34 : decode cX5_takeRequest 34 = .ok (.aload_n 2, 1) := by decide +kernel
theorem dX5_takeRequest_35 : decode cX5_takeRequest 35 = .ok (.iconst 3, 1) := by decide +kernel
theorem dX5_takeRequest_36 : decode cX5_takeRequest 36 = .ok (.lconst 0, 1) := by decide +kernel
theorem dX5_takeRequest_37 : decode cX5_takeRequest 37 = .ok (.invokevirtual 274, 3) := by decide +kernel
theorem dX5_takeRequest_40 : decode cX5_takeRequest 40 = .ok (.goto 51, 3) := by decide +kernel
theorem dX5_takeRequest_43 : decode cX5_takeRequest 43 = .ok (.aload_n 3, 1) := by decide +kernel
theorem dX5_takeRequest_44 : decode cX5_takeRequest 44 = .ok (.getfield 155, 3) := by decide +kernel
theorem dX5_takeRequest_47 : decode cX5_takeRequest 47 = .ok (.iconst 2, 1) := by decide +kernel
theorem dX5_takeRequest_48 : decode cX5_takeRequest 48 = .ok (.if_icmp .ne 14, 3) := by decide +kernel
theorem dX5_takeRequest_51 : decode cX5_takeRequest 51 = .ok (.aload_n 0, 1) := by decide +kernel
theorem dX5_takeRequest_52 : decode cX5_takeRequest 52 = .ok (.aload_n 1, 1) := by decide +kernel
theorem dX5_takeRequest_53 : decode cX5_takeRequest 53 = .ok (.aload_n 2, 1) := by decide +kernel
theorem dX5_takeRequest_54 : decode cX5_takeRequest 54 = .ok (.iconst 2, 1) := by decide +kernel
theorem dX5_takeRequest_55 : decode cX5_takeRequest 55 = .ok (.lconst 0, 1) := by decide +kernel
theorem dX5_takeRequest_56 : decode cX5_takeRequest 56 = .ok (.invokevirtual 274, 3) := by decide +kernel
theorem dX5_takeRequest_59 : decode cX5_takeRequest 59 = .ok (.goto 32, 3) := by decide +kernel
theorem dX5_takeRequest_62 : decode cX5_takeRequest 62 = .ok (.aload_n 3, 1) := by decide +kernel
theorem dX5_takeRequest_63 : decode cX5_takeRequest 63 = .ok (.getfield 155, 3) := by decide +kernel
theorem dX5_takeRequest_66 : decode cX5_takeRequest 66 = .ok (.ifCond .ne 18, 3) := by decide +kernel
theorem dX5_takeRequest_69 : decode cX5_takeRequest 69 = .ok (.aload_n 0, 1) := by decide +kernel
theorem dX5_takeRequest_70 : decode cX5_takeRequest 70 = .ok (.aload_n 1, 1) := by decide +kernel
theorem dX5_takeRequest_71 : decode cX5_takeRequest 71 = .ok (.aload_n 2, 1) := by decide +kernel
theorem dX5_takeRequest_72 : decode cX5_takeRequest 72 = .ok (.iconst 1, 1) := by decide +kernel
theorem dX5_takeRequest_73 : decode cX5_takeRequest 73 = .ok (.aload_n 3, 1) := by decide +kernel
theorem dX5_takeRequest_74 : decode cX5_takeRequest 74 = .ok (.getfield 158, 3) := by decide +kernel
theorem dX5_takeRequest_77 : decode cX5_takeRequest 77 = .ok (.i2l, 1) := by decide +kernel
theorem dX5_takeRequest_78 : decode cX5_takeRequest 78 = .ok (.invokevirtual 274, 3) := by decide +kernel
theorem dX5_takeRequest_81 : decode cX5_takeRequest 81 = .ok (.goto 10, 3) := by decide +kernel
theorem dX5_takeRequest_84 : decode cX5_takeRequest 84 = .ok (.aload_n 0, 1) := by decide +kernel
theorem dX5_takeRequest_85 : decode cX5_takeRequest 85 = .ok (.aload_n 1, 1) := by decide +kernel
theorem dX5_takeRequest_86 : decode cX5_takeRequest 86 = .ok (.aload_n 3, 1) := by decide +kernel
theorem dX5_takeRequest_87 : decode cX5_takeRequest 87 = .ok (.aload_n 2, 1) := by decide +kernel
theorem dX5_takeRequest_88 : decode cX5_takeRequest 88 = .ok (.invokevirtual 278, 3) := by decide +kernel
theorem dX5_takeRequest_91 : decode cX5_takeRequest 91 = .ok (.return_, 1) := by decide +kernel
theorem dX5_takeOwnRequest_0 : decode cX5_takeOwnRequest 0 = .ok (.aload_n 2, 1) := by decide +kernel
theorem dX5_takeOwnRequest_1 : decode cX5_takeOwnRequest 1 = .ok (.aload_n 3, 1) := by decide +kernel
theorem dX5_takeOwnRequest_2 : decode cX5_takeOwnRequest 2 = .ok (.invokevirtual 282, 3) := by decide +kernel
theorem dX5_takeOwnRequest_5 : decode cX5_takeOwnRequest 5 = .ok (.ifCond .eq 8, 3) := by decide +kernel
theorem dX5_takeOwnRequest_8 : decode cX5_takeOwnRequest 8 = .ok (.aload_n 1, 1) := by decide +kernel
theorem dX5_takeOwnRequest_9 : decode cX5_takeOwnRequest 9 = .ok (.iconst 0, 1) := by decide +kernel
theorem dX5_takeOwnRequest_10 : decode cX5_takeOwnRequest 10 = .ok (.putfield 161, 3) := by decide +kernel
theorem dX5_takeOwnRequest_13 : decode cX5_takeOwnRequest 13 = .ok (.aload_n 2, 1) := by decide +kernel
theorem dX5_takeOwnRequest_14 : decode cX5_takeOwnRequest 14 = .ok (.aload_n 3, 1) := by decide +kernel
theorem dX5_takeOwnRequest_15 : decode cX5_takeOwnRequest 15 = .ok (.invokevirtual 285, 3) := by decide +kernel
theorem dX5_takeOwnRequest_18 : decode cX5_takeOwnRequest 18 = .ok (.istore 4, 2) := by decide +kernel
theorem dX5_takeOwnRequest_20 : decode cX5_takeOwnRequest 20 = .ok (.aload_n 3, 1) := by decide +kernel
theorem dX5_takeOwnRequest_21 : decode cX5_takeOwnRequest 21 = .ok (.getfield 240, 3) := by decide +kernel
theorem dX5_takeOwnRequest_24 : decode cX5_takeOwnRequest 24 = .ok (.aload_n 2, 1) := by decide +kernel
theorem dX5_takeOwnRequest_25 : decode cX5_takeOwnRequest 25 = .ok (.aload_n 3, 1) := by decide +kernel
theorem dX5_takeOwnRequest_26 : decode cX5_takeOwnRequest 26 = .ok (.getfield 271, 3) := by decide +kernel
theorem dX5_takeOwnRequest_29 : decode cX5_takeOwnRequest 29 = .ok (.invokevirtual 289, 3) := by decide +kernel
theorem dX5_takeOwnRequest_32 : decode cX5_takeOwnRequest 32 = .ok (.if_icmp .ge 14, 3) := by decide +kernel
theorem dX5_takeOwnRequest_35 : decode cX5_takeOwnRequest 35 = .ok (.aload_n 0, 1) := by decide +kernel
theorem dX5_takeOwnRequest_36 : decode cX5_takeOwnRequest 36 = .ok (.aload_n 1, 1) := by decide +kernel
theorem dX5_takeOwnRequest_37 : decode cX5_takeOwnRequest 37 = .ok (.aload_n 3, 1) := by decide +kernel
theorem dX5_takeOwnRequest_38 : decode cX5_takeOwnRequest 38 = .ok (.iconst 4, 1) := by decide +kernel
theorem dX5_takeOwnRequest_39 : decode cX5_takeOwnRequest 39 = .ok (.lconst 0, 1) := by decide +kernel
theorem dX5_takeOwnRequest_40 : decode cX5_takeOwnRequest 40 = .ok (.invokevirtual 274, 3) := by decide +kernel
theorem dX5_takeOwnRequest_43 : decode cX5_takeOwnRequest 43 = .ok (.goto 83, 3) := by decide +kernel
theorem dX5_takeOwnRequest_46 : decode cX5_takeOwnRequest 46 = .ok (.iload 4, 2) := by decide +kernel
theorem dX5_takeOwnRequest_48 : decode cX5_takeOwnRequest 48 = .ok (.ifCond .lt 20, 3) := by decide +kernel
theorem dX5_takeOwnRequest_51 : decode cX5_takeOwnRequest 51 = .ok (.aload_n 0, 1) := by decide +kernel
theorem dX5_takeOwnRequest_52 : decode cX5_takeOwnRequest 52 = .ok (.aload_n 1, 1) := by decide +kernel
theorem dX5_takeOwnRequest_53 : decode cX5_takeOwnRequest 53 = .ok (.aload_n 3, 1) := by decide +kernel
theorem dX5_takeOwnRequest_54 : decode cX5_takeOwnRequest 54 = .ok (.iconst 0, 1) := by decide +kernel
theorem dX5_takeOwnRequest_55 : decode cX5_takeOwnRequest 55 = .ok (.aload_n 2, 1) := by decide +kernel
theorem dX5_takeOwnRequest_56 : decode cX5_takeOwnRequest 56 = .ok (.getfield 292, 3) := by decide +kernel
theorem dX5_takeOwnRequest_59 : decode cX5_takeOwnRequest 59 = .ok (.iload 4, 2) := by decide +kernel
theorem dX5_takeOwnRequest_61 : decode cX5_takeOwnRequest 61 = .ok (.laload, 1) := by decide +kernel
theorem dX5_takeOwnRequest_62 : decode cX5_takeOwnRequest 62 = .ok (.invokevirtual 274, 3) := by decide +kernel
theorem dX5_takeOwnRequest_65 : decode cX5_takeOwnRequest 65 = .ok (.goto 61, 3) := by decide +kernel
theorem dX5_takeOwnRequest_68 : decode cX5_takeOwnRequest 68 = .ok (.aload_n 2, 1) := by decide +kernel
theorem dX5_takeOwnRequest_69 : decode cX5_takeOwnRequest 69 = .ok (.getfield 202, 3) := by decide +kernel
theorem dX5_takeOwnRequest_72 : decode cX5_takeOwnRequest 72 = .ok (.bipush 12, 2) := by decide +kernel
theorem dX5_takeOwnRequest_74 : decode cX5_takeOwnRequest 74 = .ok (.if_icmp .lt 14, 3) := by decide +kernel
theorem dX5_takeOwnRequest_77 : decode cX5_takeOwnRequest 77 = .ok (.aload_n 0, 1) := by decide +kernel
theorem dX5_takeOwnRequest_78 : decode cX5_takeOwnRequest 78 = .ok (.aload_n 1, 1) := by decide +kernel
theorem dX5_takeOwnRequest_79 : decode cX5_takeOwnRequest 79 = .ok (.aload_n 3, 1) := by decide +kernel
theorem dX5_takeOwnRequest_80 : decode cX5_takeOwnRequest 80 = .ok (.iconst 2, 1) := by decide +kernel
theorem dX5_takeOwnRequest_81 : decode cX5_takeOwnRequest 81 = .ok (.lconst 0, 1) := by decide +kernel
theorem dX5_takeOwnRequest_82 : decode cX5_takeOwnRequest 82 = .ok (.invokevirtual 274, 3) := by decide +kernel
theorem dX5_takeOwnRequest_85 : decode cX5_takeOwnRequest 85 = .ok (.goto 41, 3) := by decide +kernel
theorem dX5_takeOwnRequest_88 : decode cX5_takeOwnRequest 88 = .ok (.aload_n 2, 1) := by decide +kernel
theorem dX5_takeOwnRequest_89 : decode cX5_takeOwnRequest 89 = .ok (.aload_n 3, 1) := by decide +kernel
theorem dX5_takeOwnRequest_90 : decode cX5_takeOwnRequest 90 = .ok (.invokevirtual 295, 3) := by decide +kernel
theorem dX5_takeOwnRequest_93 : decode cX5_takeOwnRequest 93 = .ok (.lstore 5, 2) := by decide +kernel
theorem dX5_takeOwnRequest_95 : decode cX5_takeOwnRequest 95 = .ok (.aload_n 2, 1) := by decide +kernel
theorem dX5_takeOwnRequest_96 : decode cX5_takeOwnRequest 96 = .ok (.aload_n 3, 1) := by decide +kernel
theorem dX5_takeOwnRequest_97 : decode cX5_takeOwnRequest 97 = .ok (.lload 5, 2) := by decide +kernel
theorem dX5_takeOwnRequest_99 : decode cX5_takeOwnRequest 99 = .ok (.invokevirtual 299, 3) := by decide +kernel
theorem dX5_takeOwnRequest_102 : decode cX5_takeOwnRequest 102 = .ok (.aload_n 1, 1) := by decide +kernel
theorem dX5_takeOwnRequest_103 : decode cX5_takeOwnRequest 103 = .ok (.iconst 0, 1) := by decide +kernel
theorem dX5_takeOwnRequest_104 : decode cX5_takeOwnRequest 104 = .ok (.putfield 161, 3) := by decide +kernel
theorem dX5_takeOwnRequest_107 : decode cX5_takeOwnRequest 107 = .ok (.aload_n 0, 1) := by decide +kernel
theorem dX5_takeOwnRequest_108 : decode cX5_takeOwnRequest 108 = .ok (.dup, 1) := by decide +kernel
theorem dX5_takeOwnRequest_109 : decode cX5_takeOwnRequest 109 = .ok (.getfield 234, 3) := by decide +kernel
theorem dX5_takeOwnRequest_112 : decode cX5_takeOwnRequest 112 = .ok (.iconst 1, 1) := by decide +kernel
theorem dX5_takeOwnRequest_113 : decode cX5_takeOwnRequest 113 = .ok (.iadd, 1) := by decide +kernel
theorem dX5_takeOwnRequest_114 : decode cX5_takeOwnRequest 114 = .ok (.putfield 234, 3) := by decide +kernel
theorem dX5_takeOwnRequest_117 : decode cX5_takeOwnRequest 117 = .ok (.aload_n 0, 1) := by decide +kernel
theorem dX5_takeOwnRequest_118 : decode cX5_takeOwnRequest 118 = .ok (.aload_n 1, 1) := by decide +kernel
theorem dX5_takeOwnRequest_119 : decode cX5_takeOwnRequest 119 = .ok (.aload_n 3, 1) := by decide +kernel
theorem dX5_takeOwnRequest_120 : decode cX5_takeOwnRequest 120 = .ok (.iconst 0, 1) := by decide +kernel
theorem dX5_takeOwnRequest_121 : decode cX5_takeOwnRequest 121 = .ok (.lload 5, 2) := by decide +kernel
theorem dX5_takeOwnRequest_123 : decode cX5_takeOwnRequest 123 = .ok (.invokevirtual 274, 3) := by decide +kernel
theorem dX5_takeOwnRequest_126 : decode cX5_takeOwnRequest 126 = .ok (.return_, 1) := by decide +kernel
theorem dX5_answer_0 : decode cX5_answer 0 = .ok (.new 89, 3) := by decide +kernel
theorem dX5_answer_3 : decode cX5_answer 3 = .ok (.dup, 1) := by decide +kernel
theorem dX5_answer_4 : decode cX5_answer 4 = .ok (.iconst 2, 1) := by decide +kernel
theorem dX5_answer_5 : decode cX5_answer 5 = .ok (.aload_n 2, 1) := by decide +kernel
theorem dX5_answer_6 : decode cX5_answer 6 = .ok (.getfield 271, 3) := by decide +kernel
theorem dX5_answer_9 : decode cX5_answer 9 = .ok (.aload_n 1, 1) := by decide +kernel
theorem dX5_answer_10 : decode cX5_answer 10 = .ok (.getfield 303, 3) := by decide +kernel
theorem dX5_answer_13 : decode cX5_answer 13 = .ok (.invokespecial 91, 3) := by decide +kernel
theorem dX5_answer_16 : decode cX5_answer 16 = .ok (.astore 6, 2) := by decide +kernel
theorem dX5_answer_18 : decode cX5_answer 18 = .ok (.aload 6, 2) := by decide +kernel
theorem dX5_answer_20 : decode cX5_answer 20 = .ok (.aload_n 2, 1) := by decide +kernel
theorem dX5_answer_21 : decode cX5_answer 21 = .ok (.getfield 94, 3) := by decide +kernel
theorem dX5_answer_24 : decode cX5_answer 24 = .ok (.putfield 94, 3) := by decide +kernel
theorem dX5_answer_27 : decode cX5_answer 27 = .ok (.aload 6, 2) := by decide +kernel
theorem dX5_answer_29 : decode cX5_answer 29 = .ok (.aload_n 2, 1) := by decide +kernel
theorem dX5_answer_30 : decode cX5_answer 30 = .ok (.getfield 240, 3) := by decide +kernel
theorem dX5_answer_33 : decode cX5_answer 33 = .ok (.putfield 240, 3) := by decide +kernel
theorem dX5_answer_36 : decode cX5_answer 36 = .ok (.aload 6, 2) := by decide +kernel
theorem dX5_answer_38 : decode cX5_answer 38 = .ok (.iload_n 3, 1) := by decide +kernel
theorem dX5_answer_39 : decode cX5_answer 39 = .ok (.putfield 243, 3) := by decide +kernel
theorem dX5_answer_42 : decode cX5_answer 42 = .ok (.aload 6, 2) := by decide +kernel
theorem dX5_answer_44 : decode cX5_answer 44 = .ok (.lload 4, 2) := by decide +kernel
theorem dX5_answer_46 : decode cX5_answer 46 = .ok (.putfield 246, 3) := by decide +kernel
theorem dX5_answer_49 : decode cX5_answer 49 = .ok (.aload_n 0, 1) := by decide +kernel
theorem dX5_answer_50 : decode cX5_answer 50 = .ok (.aload_n 1, 1) := by decide +kernel
theorem dX5_answer_51 : decode cX5_answer 51 = .ok (.aload 6, 2) := by decide +kernel
theorem dX5_answer_53 : decode cX5_answer 53 = .ok (.invokevirtual 180, 3) := by decide +kernel
theorem dX5_answer_56 : decode cX5_answer 56 = .ok (.return_, 1) := by decide +kernel
theorem dX5_takeMove_0 : decode cX5_takeMove 0 = .ok (.aload_n 1, 1) := by decide +kernel
theorem dX5_takeMove_1 : decode cX5_takeMove 1 = .ok (.aload_n 2, 1) := by decide +kernel
theorem dX5_takeMove_2 : decode cX5_takeMove 2 = .ok (.getfield 164, 3) := by decide +kernel
theorem dX5_takeMove_5 : decode cX5_takeMove 5 = .ok (.invokevirtual 146, 3) := by decide +kernel
theorem dX5_takeMove_8 : decode cX5_takeMove 8 = .ok (.astore_n 3, 1) := by decide +kernel
theorem dX5_takeMove_9 : decode cX5_takeMove 9 = .ok (.aload_n 3, 1) := by decide +kernel
theorem dX5_takeMove_10 : decode cX5_takeMove 10 = .ok (.ifnull 10, 3) := by decide +kernel
theorem dX5_takeMove_13 : decode cX5_takeMove 13 = .ok (.aload_n 2, 1) := by decide +kernel
theorem dX5_takeMove_14 : decode cX5_takeMove 14 = .ok (.getfield 172, 3) := by decide +kernel
theorem dX5_takeMove_17 : decode cX5_takeMove 17 = .ok (.ifnonnull 4, 3) := by decide +kernel
theorem dX5_takeMove_20 : decode cX5_takeMove 20 = .ok (.return_, 1) := by decide +kernel
theorem dX5_takeMove_21 : decode cX5_takeMove 21 = .ok (.aload_n 2, 1) := by decide +kernel
theorem dX5_takeMove_22 : decode cX5_takeMove 22 = .ok (.getfield 170, 3) := by decide +kernel
theorem dX5_takeMove_25 : decode cX5_takeMove 25 = .ok (.aload_n 3, 1) := by decide +kernel
theorem dX5_takeMove_26 : decode cX5_takeMove 26 = .ok (.getfield 167, 3) := by decide +kernel
theorem dX5_takeMove_29 : decode cX5_takeMove 29 = .ok (.if_icmp .le 37, 3) := by decide +kernel
theorem dX5_takeMove_32 : decode cX5_takeMove 32 = .ok (.aload_n 3, 1) := by decide +kernel
theorem dX5_takeMove_33 : decode cX5_takeMove 33 = .ok (.aload_n 2, 1) := by decide +kernel
theorem dX5_takeMove_34 : decode cX5_takeMove 34 = .ok (.getfield 172, 3) := by decide +kernel
theorem dX5_takeMove_37 : decode cX5_takeMove 37 = .ok (.invokevirtual 176, 3) := by decide +kernel
theorem dX5_takeMove_40 : decode cX5_takeMove 40 = .ok (.aload_n 3, 1) := by decide +kernel
theorem dX5_takeMove_41 : decode cX5_takeMove 41 = .ok (.iconst 1, 1) := by decide +kernel
theorem dX5_takeMove_42 : decode cX5_takeMove 42 = .ok (.putfield 155, 3) := by decide +kernel
theorem dX5_takeMove_45 : decode cX5_takeMove 45 = .ok (.aload_n 3, 1) := by decide +kernel
theorem dX5_takeMove_46 : decode cX5_takeMove 46 = .ok (.aload_n 2, 1) := by decide +kernel
theorem dX5_takeMove_47 : decode cX5_takeMove 47 = .ok (.getfield 170, 3) := by decide +kernel
theorem dX5_takeMove_50 : decode cX5_takeMove 50 = .ok (.putfield 167, 3) := by decide +kernel
theorem dX5_takeMove_53 : decode cX5_takeMove 53 = .ok (.aload_n 3, 1) := by decide +kernel
theorem dX5_takeMove_54 : decode cX5_takeMove 54 = .ok (.aload_n 1, 1) := by decide +kernel
theorem dX5_takeMove_55 : decode cX5_takeMove 55 = .ok (.getfield 303, 3) := by decide +kernel
theorem dX5_takeMove_58 : decode cX5_takeMove 58 = .ok (.putfield 158, 3) := by decide +kernel
theorem dX5_takeMove_61 : decode cX5_takeMove 61 = .ok (.aload_n 1, 1) := by decide +kernel
theorem dX5_takeMove_62 : decode cX5_takeMove 62 = .ok (.iconst 0, 1) := by decide +kernel
theorem dX5_takeMove_63 : decode cX5_takeMove 63 = .ok (.putfield 161, 3) := by decide +kernel
theorem dX5_takeMove_66 : decode cX5_takeMove 66 = .ok (.new 89, 3) := by decide +kernel
theorem dX5_takeMove_69 : decode cX5_takeMove 69 = .ok (.dup, 1) := by decide +kernel
theorem dX5_takeMove_70 : decode cX5_takeMove 70 = .ok (.iconst 4, 1) := by decide +kernel
theorem dX5_takeMove_71 : decode cX5_takeMove 71 = .ok (.aload_n 2, 1) := by decide +kernel
theorem dX5_takeMove_72 : decode cX5_takeMove 72 = .ok (.getfield 271, 3) := by decide +kernel
theorem dX5_takeMove_75 : decode cX5_takeMove 75 = .ok (.aload_n 1, 1) := by decide +kernel
theorem dX5_takeMove_76 : decode cX5_takeMove 76 = .ok (.getfield 303, 3) := by decide +kernel
theorem dX5_takeMove_79 : decode cX5_takeMove 79 = .ok (.invokespecial 91, 3) := by decide +kernel
theorem dX5_takeMove_82 : decode cX5_takeMove 82 = .ok (.astore 4, 2) := by decide +kernel
theorem dX5_takeMove_84 : decode cX5_takeMove 84 = .ok (.aload 4, 2) := by decide +kernel
theorem dX5_takeMove_86 : decode cX5_takeMove 86 = .ok (.aload_n 2, 1) := by decide +kernel
theorem dX5_takeMove_87 : decode cX5_takeMove 87 = .ok (.getfield 164, 3) := by decide +kernel
theorem dX5_takeMove_90 : decode cX5_takeMove 90 = .ok (.putfield 164, 3) := by decide +kernel
theorem dX5_takeMove_93 : decode cX5_takeMove 93 = .ok (.aload 4, 2) := by decide +kernel
theorem dX5_takeMove_95 : decode cX5_takeMove 95 = .ok (.aload_n 2, 1) := by decide +kernel
theorem dX5_takeMove_96 : decode cX5_takeMove 96 = .ok (.getfield 170, 3) := by decide +kernel
theorem dX5_takeMove_99 : decode cX5_takeMove 99 = .ok (.putfield 170, 3) := by decide +kernel
theorem dX5_takeMove_102 : decode cX5_takeMove 102 = .ok (.aload_n 0, 1) := by decide +kernel
theorem dX5_takeMove_103 : decode cX5_takeMove 103 = .ok (.aload_n 1, 1) := by decide +kernel
theorem dX5_takeMove_104 : decode cX5_takeMove 104 = .ok (.aload 4, 2) := by decide +kernel
theorem dX5_takeMove_106 : decode cX5_takeMove 106 = .ok (.invokevirtual 180, 3) := by decide +kernel
theorem dX5_takeMove_109 : decode cX5_takeMove 109 = .ok (.return_, 1) := by decide +kernel
theorem dX5_takeTaken_0 : decode cX5_takeTaken 0 = .ok (.aload_n 1, 1) := by decide +kernel
theorem dX5_takeTaken_1 : decode cX5_takeTaken 1 = .ok (.aload_n 2, 1) := by decide +kernel
theorem dX5_takeTaken_2 : decode cX5_takeTaken 2 = .ok (.getfield 164, 3) := by decide +kernel
theorem dX5_takeTaken_5 : decode cX5_takeTaken 5 = .ok (.invokevirtual 146, 3) := by decide +kernel
theorem dX5_takeTaken_8 : decode cX5_takeTaken 8 = .ok (.astore_n 3, 1) := by decide +kernel
theorem dX5_takeTaken_9 : decode cX5_takeTaken 9 = .ok (.aload_n 3, 1) := by decide +kernel
theorem dX5_takeTaken_10 : decode cX5_takeTaken 10 = .ok (.ifnull 46, 3) := by decide +kernel
theorem dX5_takeTaken_13 : decode cX5_takeTaken 13 = .ok (.aload_n 3, 1) := by decide +kernel
theorem dX5_takeTaken_14 : decode cX5_takeTaken 14 = .ok (.getfield 155, 3) := by decide +kernel
theorem dX5_takeTaken_17 : decode cX5_takeTaken 17 = .ok (.iconst 2, 1) := by decide +kernel
theorem dX5_takeTaken_18 : decode cX5_takeTaken 18 = .ok (.if_icmp .ne 38, 3) := by decide +kernel
theorem dX5_takeTaken_21 : decode cX5_takeTaken 21 = .ok (.aload_n 3, 1) := by decide +kernel
theorem dX5_takeTaken_22 : decode cX5_takeTaken 22 = .ok (.getfield 167, 3) := by decide +kernel
theorem dX5_takeTaken_25 : decode cX5_takeTaken 25 = .ok (.aload_n 2, 1) := by decide +kernel
theorem dX5_takeTaken_26 : decode cX5_takeTaken 26 = .ok (.getfield 170, 3) := by decide +kernel
theorem dX5_takeTaken_29 : decode cX5_takeTaken 29 = .ok (.iconst 1, 1) := by decide +kernel
theorem dX5_takeTaken_30 : decode cX5_takeTaken 30 = .ok (.isub, 1) := by decide +kernel
theorem dX5_takeTaken_31 : decode cX5_takeTaken 31 = .ok (.if_icmp .ne 25, 3) := by decide +kernel
theorem dX5_takeTaken_34 : decode cX5_takeTaken 34 = .ok (.aload_n 3, 1) := by decide +kernel
theorem dX5_takeTaken_35 : decode cX5_takeTaken 35 = .ok (.invokevirtual 306, 3) := by decide +kernel
theorem dX5_takeTaken_38 : decode cX5_takeTaken 38 = .ok (.aload_n 3, 1) := by decide +kernel
theorem dX5_takeTaken_39 : decode cX5_takeTaken 39 = .ok (.iconst 0, 1) := by decide +kernel
theorem dX5_takeTaken_40 : decode cX5_takeTaken 40 = .ok (.putfield 155, 3) := by decide +kernel
theorem dX5_takeTaken_43 : decode cX5_takeTaken 43 = .ok (.aload_n 3, 1) := by decide +kernel
theorem dX5_takeTaken_44 : decode cX5_takeTaken 44 = .ok (.aload_n 2, 1) := by decide +kernel
theorem dX5_takeTaken_45 : decode cX5_takeTaken 45 = .ok (.getfield 170, 3) := by decide +kernel
theorem dX5_takeTaken_48 : decode cX5_takeTaken 48 = .ok (.putfield 167, 3) := by decide +kernel
theorem dX5_takeTaken_51 : decode cX5_takeTaken 51 = .ok (.aload_n 1, 1) := by decide +kernel
theorem dX5_takeTaken_52 : decode cX5_takeTaken 52 = .ok (.iconst 0, 1) := by decide +kernel
theorem dX5_takeTaken_53 : decode cX5_takeTaken 53 = .ok (.putfield 161, 3) := by decide +kernel
theorem dX5_takeTaken_56 : decode cX5_takeTaken 56 = .ok (.return_, 1) := by decide +kernel
theorem dX5_takeAck_0 : decode cX5_takeAck 0 = .ok (.iconst 0, 1) := by decide +kernel
theorem dX5_takeAck_1 : decode cX5_takeAck 1 = .ok (.istore_n 3, 1) := by decide +kernel
theorem dX5_takeAck_2 : decode cX5_takeAck 2 = .ok (.iload_n 3, 1) := by decide +kernel
theorem dX5_takeAck_3 : decode cX5_takeAck 3 = .ok (.bipush 8, 2) := by decide +kernel
theorem dX5_takeAck_5 : decode cX5_takeAck 5 = .ok (.if_icmp .ge 44, 3) := by decide +kernel
theorem dX5_takeAck_8 : decode cX5_takeAck 8 = .ok (.aload_n 1, 1) := by decide +kernel
theorem dX5_takeAck_9 : decode cX5_takeAck 9 = .ok (.iload_n 3, 1) := by decide +kernel
theorem dX5_takeAck_10 : decode cX5_takeAck 10 = .ok (.invokevirtual 146, 3) := by decide +kernel
theorem dX5_takeAck_13 : decode cX5_takeAck 13 = .ok (.astore 4, 2) := by decide +kernel
theorem dX5_takeAck_15 : decode cX5_takeAck 15 = .ok (.aload 4, 2) := by decide +kernel
theorem dX5_takeAck_17 : decode cX5_takeAck 17 = .ok (.ifnull 26, 3) := by decide +kernel
theorem dX5_takeAck_20 : decode cX5_takeAck 20 = .ok (.aload 4, 2) := by decide +kernel
theorem dX5_takeAck_22 : decode cX5_takeAck 22 = .ok (.getfield 155, 3) := by decide +kernel
theorem dX5_takeAck_25 : decode cX5_takeAck 25 = .ok (.iconst 1, 1) := by decide +kernel
theorem dX5_takeAck_26 : decode cX5_takeAck 26 = .ok (.if_icmp .ne 17, 3) := by decide +kernel
theorem dX5_takeAck_29 : decode cX5_takeAck 29 = .ok (.aload 4, 2) := by decide +kernel
theorem dX5_takeAck_31 : decode cX5_takeAck 31 = .ok (.aload_n 2, 1) := by decide +kernel
theorem dX5_takeAck_32 : decode cX5_takeAck 32 = .ok (.invokevirtual 282, 3) := by decide +kernel
theorem dX5_takeAck_35 : decode cX5_takeAck 35 = .ok (.ifCond .eq 8, 3) := by decide +kernel
theorem dX5_takeAck_38 : decode cX5_takeAck 38 = .ok (.aload_n 1, 1) := by decide +kernel
theorem dX5_takeAck_39 : decode cX5_takeAck 39 = .ok (.iconst 0, 1) := by decide +kernel
theorem dX5_takeAck_40 : decode cX5_takeAck 40 = .ok (.putfield 161, 3) := by decide +kernel
theorem dX5_takeAck_43 : decode cX5_takeAck 43 = .ok (.iinc 3 1, 3) := by decide +kernel
theorem dX5_takeAck_46 : decode cX5_takeAck 46 = .ok (.goto (-44), 3) := by decide +kernel
theorem dX5_takeAck_49 : decode cX5_takeAck 49 = .ok (.return_, 1) := by decide +kernel
theorem dX5_removeDeadRecords_0 : decode cX5_removeDeadRecords 0 = .ok (.aload_n 1, 1) := by decide +kernel
theorem dX5_removeDeadRecords_1 : decode cX5_removeDeadRecords 1 = .ok (.getfield 202, 3) := by decide +kernel
theorem dX5_removeDeadRecords_4 : decode cX5_removeDeadRecords 4 = .ok (.istore_n 2, 1) := by decide +kernel
theorem dX5_removeDeadRecords_5 : decode cX5_removeDeadRecords 5 = .ok (.iload_n 2, 1) := by decide +kernel
theorem dX5_removeDeadRecords_6 : decode cX5_removeDeadRecords 6 = .ok (.iconst 1, 1) := by decide +kernel
theorem dX5_removeDeadRecords_7 : decode cX5_removeDeadRecords 7 = .ok (.isub, 1) := by decide +kernel
theorem dX5_removeDeadRecords_8 : decode cX5_removeDeadRecords 8 = .ok (.istore_n 3, 1) := by decide +kernel
theorem dX5_removeDeadRecords_9 : decode cX5_removeDeadRecords 9 = .ok (.iload_n 3, 1) := by decide +kernel
theorem dX5_removeDeadRecords_10 : decode cX5_removeDeadRecords 10 = .ok (.ifCond .lt 33, 3) := by decide +kernel
theorem dX5_removeDeadRecords_13 : decode cX5_removeDeadRecords 13 = .ok (.aload_n 0, 1) := by decide +kernel
theorem dX5_removeDeadRecords_14 : decode cX5_removeDeadRecords 14 = .ok (.aload_n 1, 1) := by decide +kernel
theorem dX5_removeDeadRecords_15 : decode cX5_removeDeadRecords 15 = .ok (.getfield 216, 3) := by decide +kernel
theorem dX5_removeDeadRecords_18 : decode cX5_removeDeadRecords 18 = .ok (.iload_n 3, 1) := by decide +kernel
theorem dX5_removeDeadRecords_19 : decode cX5_removeDeadRecords 19 = .ok (.iaload, 1) := by decide +kernel
theorem dX5_removeDeadRecords_20 : decode cX5_removeDeadRecords 20 = .ok (.aload_n 1, 1) := by decide +kernel
theorem dX5_removeDeadRecords_21 : decode cX5_removeDeadRecords 21 = .ok (.getfield 219, 3) := by decide +kernel
theorem dX5_removeDeadRecords_24 : decode cX5_removeDeadRecords 24 = .ok (.iload_n 3, 1) := by decide +kernel
theorem dX5_removeDeadRecords_25 : decode cX5_removeDeadRecords 25 = .ok (.iaload, 1) := by decide +kernel
theorem dX5_removeDeadRecords_26 : decode cX5_removeDeadRecords 26 = .ok (.invokevirtual 57, 3) := by decide +kernel
theorem dX5_removeDeadRecords_29 : decode cX5_removeDeadRecords 29 = .ok (.ifCond .ne 8, 3) := by decide +kernel
theorem dX5_removeDeadRecords_32 : decode cX5_removeDeadRecords 32 = .ok (.aload_n 1, 1) := by decide +kernel
theorem dX5_removeDeadRecords_33 : decode cX5_removeDeadRecords 33 = .ok (.iload_n 3, 1) := by decide +kernel
theorem dX5_removeDeadRecords_34 : decode cX5_removeDeadRecords 34 = .ok (.invokevirtual 309, 3) := by decide +kernel
theorem dX5_removeDeadRecords_37 : decode cX5_removeDeadRecords 37 = .ok (.iinc 3 (-1), 3) := by decide +kernel
theorem dX5_removeDeadRecords_40 : decode cX5_removeDeadRecords 40 = .ok (.goto (-31), 3) := by decide +kernel
theorem dX5_removeDeadRecords_43 : decode cX5_removeDeadRecords 43 = .ok (.iload_n 2, 1) := by decide +kernel
theorem dX5_removeDeadRecords_44 : decode cX5_removeDeadRecords 44 = .ok (.aload_n 1, 1) := by decide +kernel
theorem dX5_removeDeadRecords_45 : decode cX5_removeDeadRecords 45 = .ok (.getfield 202, 3) := by decide +kernel
theorem dX5_removeDeadRecords_48 : decode cX5_removeDeadRecords 48 = .ok (.isub, 1) := by decide +kernel
theorem dX5_removeDeadRecords_49 : decode cX5_removeDeadRecords 49 = .ok (.ireturn, 1) := by decide +kernel
theorem dX5_requestOf_0 : decode cX5_requestOf 0 = .ok (.aload_n 0, 1) := by decide +kernel
theorem dX5_requestOf_1 : decode cX5_requestOf 1 = .ok (.getfield 250, 3) := by decide +kernel
theorem dX5_requestOf_4 : decode cX5_requestOf 4 = .ok (.iload_n 1, 1) := by decide +kernel
theorem dX5_requestOf_5 : decode cX5_requestOf 5 = .ok (.iaload, 1) := by decide +kernel
theorem dX5_requestOf_6 : decode cX5_requestOf 6 = .ok (.istore_n 2, 1) := by decide +kernel
theorem dX5_requestOf_7 : decode cX5_requestOf 7 = .ok (.new 89, 3) := by decide +kernel
theorem dX5_requestOf_10 : decode cX5_requestOf 10 = .ok (.dup, 1) := by decide +kernel
theorem dX5_requestOf_11 : decode cX5_requestOf 11 = .ok (.iconst 1, 1) := by decide +kernel
theorem dX5_requestOf_12 : decode cX5_requestOf 12 = .ok (.aload_n 0, 1) := by decide +kernel
theorem dX5_requestOf_13 : decode cX5_requestOf 13 = .ok (.getfield 225, 3) := by decide +kernel
theorem dX5_requestOf_16 : decode cX5_requestOf 16 = .ok (.iload_n 2, 1) := by decide +kernel
theorem dX5_requestOf_17 : decode cX5_requestOf 17 = .ok (.invokestatic 205, 3) := by decide +kernel
theorem dX5_requestOf_20 : decode cX5_requestOf 20 = .ok (.iaload, 1) := by decide +kernel
theorem dX5_requestOf_21 : decode cX5_requestOf 21 = .ok (.aload_n 0, 1) := by decide +kernel
theorem dX5_requestOf_22 : decode cX5_requestOf 22 = .ok (.getfield 312, 3) := by decide +kernel
theorem dX5_requestOf_25 : decode cX5_requestOf 25 = .ok (.invokespecial 91, 3) := by decide +kernel
theorem dX5_requestOf_28 : decode cX5_requestOf 28 = .ok (.astore_n 3, 1) := by decide +kernel
theorem dX5_requestOf_29 : decode cX5_requestOf 29 = .ok (.aload_n 3, 1) := by decide +kernel
theorem dX5_requestOf_30 : decode cX5_requestOf 30 = .ok (.aload_n 0, 1) := by decide +kernel
theorem dX5_requestOf_31 : decode cX5_requestOf 31 = .ok (.getfield 45, 3) := by decide +kernel
theorem dX5_requestOf_34 : decode cX5_requestOf 34 = .ok (.putfield 94, 3) := by decide +kernel
theorem dX5_requestOf_37 : decode cX5_requestOf 37 = .ok (.aload_n 3, 1) := by decide +kernel
theorem dX5_requestOf_38 : decode cX5_requestOf 38 = .ok (.iload_n 1, 1) := by decide +kernel
theorem dX5_requestOf_39 : decode cX5_requestOf 39 = .ok (.putfield 240, 3) := by decide +kernel
theorem dX5_requestOf_42 : decode cX5_requestOf 42 = .ok (.aload_n 3, 1) := by decide +kernel
theorem dX5_requestOf_43 : decode cX5_requestOf 43 = .ok (.aload_n 0, 1) := by decide +kernel
theorem dX5_requestOf_44 : decode cX5_requestOf 44 = .ok (.invokevirtual 95, 3) := by decide +kernel
theorem dX5_requestOf_47 : decode cX5_requestOf 47 = .ok (.putfield 98, 3) := by decide +kernel
theorem dX5_requestOf_50 : decode cX5_requestOf 50 = .ok (.aload_n 3, 1) := by decide +kernel
theorem dX5_requestOf_51 : decode cX5_requestOf 51 = .ok (.iload_n 2, 1) := by decide +kernel
theorem dX5_requestOf_52 : decode cX5_requestOf 52 = .ok (.putfield 268, 3) := by decide +kernel
theorem dX5_requestOf_55 : decode cX5_requestOf 55 = .ok (.aload_n 3, 1) := by decide +kernel
theorem dX5_requestOf_56 : decode cX5_requestOf 56 = .ok (.aload_n 0, 1) := by decide +kernel
theorem dX5_requestOf_57 : decode cX5_requestOf 57 = .ok (.getfield 313, 3) := by decide +kernel
theorem dX5_requestOf_60 : decode cX5_requestOf 60 = .ok (.iload_n 1, 1) := by decide +kernel
theorem dX5_requestOf_61 : decode cX5_requestOf 61 = .ok (.iaload, 1) := by decide +kernel
theorem dX5_requestOf_62 : decode cX5_requestOf 62 = .ok (.putfield 316, 3) := by decide +kernel
theorem dX5_requestOf_65 : decode cX5_requestOf 65 = .ok (.aload_n 3, 1) := by decide +kernel
theorem dX5_requestOf_66 : decode cX5_requestOf 66 = .ok (.aload_n 0, 1) := by decide +kernel
theorem dX5_requestOf_67 : decode cX5_requestOf 67 = .ok (.getfield 319, 3) := by decide +kernel
theorem dX5_requestOf_70 : decode cX5_requestOf 70 = .ok (.iload_n 1, 1) := by decide +kernel
theorem dX5_requestOf_71 : decode cX5_requestOf 71 = .ok (.laload, 1) := by decide +kernel
theorem dX5_requestOf_72 : decode cX5_requestOf 72 = .ok (.putfield 322, 3) := by decide +kernel
theorem dX5_requestOf_75 : decode cX5_requestOf 75 = .ok (.aload_n 3, 1) := by decide +kernel
theorem dX5_requestOf_76 : decode cX5_requestOf 76 = .ok (.aload_n 0, 1) := by decide +kernel
theorem dX5_requestOf_77 : decode cX5_requestOf 77 = .ok (.getfield 325, 3) := by decide +kernel
theorem dX5_requestOf_80 : decode cX5_requestOf 80 = .ok (.iload_n 1, 1) := by decide +kernel
theorem dX5_requestOf_81 : decode cX5_requestOf 81 = .ok (.laload, 1) := by decide +kernel
theorem dX5_requestOf_82 : decode cX5_requestOf 82 = .ok (.putfield 328, 3) := by decide +kernel
theorem dX5_requestOf_85 : decode cX5_requestOf 85 = .ok (.aload_n 3, 1) := by decide +kernel
theorem dX5_requestOf_86 : decode cX5_requestOf 86 = .ok (.areturn, 1) := by decide +kernel
theorem dX5_bucketOf_0 : decode cX5_bucketOf 0 = .ok (.iload_n 0, 1) := by decide +kernel
theorem dX5_bucketOf_1 : decode cX5_bucketOf 1 = .ok (.bipush 8, 2) := by decide +kernel
theorem dX5_bucketOf_3 : decode cX5_bucketOf 3 = .ok (.irem, 1) := by decide +kernel
theorem dX5_bucketOf_4 : decode cX5_bucketOf 4 = .ok (.ireturn, 1) := by decide +kernel
theorem dX5_placeOf_0 : decode cX5_placeOf 0 = .ok (.iload_n 0, 1) := by decide +kernel
theorem dX5_placeOf_1 : decode cX5_placeOf 1 = .ok (.bipush 8, 2) := by decide +kernel
theorem dX5_placeOf_3 : decode cX5_placeOf 3 = .ok (.idiv, 1) := by decide +kernel
theorem dX5_placeOf_4 : decode cX5_placeOf 4 = .ok (.ireturn, 1) := by decide +kernel
theorem dX5_oneIf_0 : decode cX5_oneIf 0 = .ok (.iload_n 0, 1) := by decide +kernel
theorem dX5_oneIf_1 : decode cX5_oneIf 1 = .ok (.ifCond .eq 7, 3) := by decide +kernel
theorem dX5_oneIf_4 : decode cX5_oneIf 4 = .ok (.iconst 1, 1) := by decide +kernel
theorem dX5_oneIf_5 : decode cX5_oneIf 5 = .ok (.goto 4, 3) := by decide +kernel
theorem dX5_oneIf_8 : decode cX5_oneIf 8 = .ok (.iconst 0, 1) := by decide +kernel
theorem dX5_oneIf_9 : decode cX5_oneIf 9 = .ok (.ireturn, 1) := by decide +kernel
end
section
theorem dX6_init_0 : decode cX6_init 0 = .ok (.aload_n 0, 1) := by decide +kernel
theorem dX6_init_1 : decode cX6_init 1 = .ok (.invokespecial 1, 3) := by decide +kernel
theorem dX6_init_4 : decode cX6_init 4 = .ok (.aload_n 0, 1) := by decide +kernel
theorem dX6_init_5 : decode cX6_init 5 = .ok (.bipush 6, 2) := by decide +kernel
theorem dX6_init_7 : decode cX6_init 7 = .ok (.newarray .int, 2) := by decide +kernel
theorem dX6_init_9 : decode cX6_init 9 = .ok (.putfield 7, 3) := by decide +kernel
theorem dX6_init_12 : decode cX6_init 12 = .ok (.aload_n 0, 1) := by decide +kernel
theorem dX6_init_13 : decode cX6_init 13 = .ok (.bipush 6, 2) := by decide +kernel
theorem dX6_init_15 : decode cX6_init 15 = .ok (.newarray .int, 2) := by decide +kernel
theorem dX6_init_17 : decode cX6_init 17 = .ok (.putfield 13, 3) := by decide +kernel
theorem dX6_init_20 : decode cX6_init 20 = .ok (.aload_n 0, 1) := by decide +kernel
theorem dX6_init_21 : decode cX6_init 21 = .ok (.bipush 6, 2) := by decide +kernel
theorem dX6_init_23 : decode cX6_init 23 = .ok (.newarray .int, 2) := by decide +kernel
theorem dX6_init_25 : decode cX6_init 25 = .ok (.putfield 16, 3) := by decide +kernel
theorem dX6_init_28 : decode cX6_init 28 = .ok (.aload_n 0, 1) := by decide +kernel
theorem dX6_init_29 : decode cX6_init 29 = .ok (.bipush 48, 2) := by decide +kernel
theorem dX6_init_31 : decode cX6_init 31 = .ok (.newarray .int, 2) := by decide +kernel
theorem dX6_init_33 : decode cX6_init 33 = .ok (.putfield 19, 3) := by decide +kernel
theorem dX6_init_36 : decode cX6_init 36 = .ok (.aload_n 0, 1) := by decide +kernel
theorem dX6_init_37 : decode cX6_init 37 = .ok (.sipush 360, 3) := by decide +kernel
theorem dX6_init_40 : decode cX6_init 40 = .ok (.newarray .int, 2) := by decide +kernel
theorem dX6_init_42 : decode cX6_init 42 = .ok (.putfield 22, 3) := by decide +kernel
theorem dX6_init_45 : decode cX6_init 45 = .ok (.aload_n 0, 1) := by decide +kernel
theorem dX6_init_46 : decode cX6_init 46 = .ok (.sipush 360, 3) := by decide +kernel
theorem dX6_init_49 : decode cX6_init 49 = .ok (.newarray .long, 2) := by decide +kernel
theorem dX6_init_51 : decode cX6_init 51 = .ok (.putfield 25, 3) := by decide +kernel
theorem dX6_init_54 : decode cX6_init 54 = .ok (.aload_n 0, 1) := by decide +kernel
theorem dX6_init_55 : decode cX6_init 55 = .ok (.sipush 360, 3) := by decide +kernel
theorem dX6_init_58 : decode cX6_init 58 = .ok (.newarray .int, 2) := by decide +kernel
theorem dX6_init_60 : decode cX6_init 60 = .ok (.putfield 29, 3) := by decide +kernel
theorem dX6_init_63 : decode cX6_init 63 = .ok (.aload_n 0, 1) := by decide +kernel
theorem dX6_init_64 : decode cX6_init 64 = .ok (.sipush 360, 3) := by decide +kernel
theorem dX6_init_67 : decode cX6_init 67 = .ok (.newarray .int, 2) := by decide +kernel
theorem dX6_init_69 : decode cX6_init 69 = .ok (.putfield 32, 3) := by decide +kernel
theorem dX6_init_72 : decode cX6_init 72 = .ok (.aload_n 0, 1) := by decide +kernel
theorem dX6_init_73 : decode cX6_init 73 = .ok (.sipush 360, 3) := by decide +kernel
theorem dX6_init_76 : decode cX6_init 76 = .ok (.newarray .long, 2) := by decide +kernel
theorem dX6_init_78 : decode cX6_init 78 = .ok (.putfield 35, 3) := by decide +kernel
theorem dX6_init_81 : decode cX6_init 81 = .ok (.aload_n 0, 1) := by decide +kernel
theorem dX6_init_82 : decode cX6_init 82 = .ok (.sipush 360, 3) := by decide +kernel
theorem dX6_init_85 : decode cX6_init 85 = .ok (.newarray .long, 2) := by decide +kernel
theorem dX6_init_87 : decode cX6_init 87 = .ok (.putfield 38, 3) := by decide +kernel
theorem dX6_init_90 : decode cX6_init 90 = .ok (.aload_n 0, 1) := by decide +kernel
theorem dX6_init_91 : decode cX6_init 91 = .ok (.bipush 64, 2) := by decide +kernel
theorem dX6_init_93 : decode cX6_init 93 = .ok (.newarray .int, 2) := by decide +kernel
theorem dX6_init_95 : decode cX6_init 95 = .ok (.putfield 41, 3) := by decide +kernel
theorem dX6_init_98 : decode cX6_init 98 = .ok (.aload_n 0, 1) := by decide +kernel
theorem dX6_init_99 : decode cX6_init 99 = .ok (.bipush 64, 2) := by decide +kernel
theorem dX6_init_101 : decode cX6_init 101 = .ok (.newarray .int, 2) := by decide +kernel
theorem dX6_init_103 : decode cX6_init 103 = .ok (.putfield 44, 3) := by decide +kernel
theorem dX6_init_106 : decode cX6_init 106 = .ok (.aload_n 0, 1) := by decide +kernel
theorem dX6_init_107 : decode cX6_init 107 = .ok (.bipush 64, 2) := by decide +kernel
theorem dX6_init_109 : decode cX6_init 109 = .ok (.newarray .int, 2) := by decide +kernel
theorem dX6_init_111 : decode cX6_init 111 = .ok (.putfield 47, 3) := by decide +kernel
theorem dX6_init_114 : decode cX6_init 114 = .ok (.aload_n 0, 1) := by decide +kernel
theorem dX6_init_115 : decode cX6_init 115 = .ok (.sipush 256, 3) := by decide +kernel
theorem dX6_init_118 : decode cX6_init 118 = .ok (.newarray .long, 2) := by decide +kernel
theorem dX6_init_120 : decode cX6_init 120 = .ok (.putfield 50, 3) := by decide +kernel
theorem dX6_init_123 : decode cX6_init 123 = .ok (.aload_n 0, 1) := by decide +kernel
theorem dX6_init_124 : decode cX6_init 124 = .ok (.bipush 64, 2) := by decide +kernel
theorem dX6_init_126 : decode cX6_init 126 = .ok (.newarray .int, 2) := by decide +kernel
theorem dX6_init_128 : decode cX6_init 128 = .ok (.putfield 53, 3) := by decide +kernel
theorem dX6_init_131 : decode cX6_init 131 = .ok (.aload_n 0, 1) := by decide +kernel
theorem dX6_init_132 : decode cX6_init 132 = .ok (.sipush 768, 3) := by decide +kernel
theorem dX6_init_135 : decode cX6_init 135 = .ok (.newarray .int, 2) := by decide +kernel
theorem dX6_init_137 : decode cX6_init 137 = .ok (.putfield 56, 3) := by decide +kernel
theorem dX6_init_140 : decode cX6_init 140 = .ok (.aload_n 0, 1) := by decide +kernel
theorem dX6_init_141 : decode cX6_init 141 = .ok (.sipush 768, 3) := by decide +kernel
theorem dX6_init_144 : decode cX6_init 144 = .ok (.newarray .int, 2) := by decide +kernel
theorem dX6_init_146 : decode cX6_init 146 = .ok (.putfield 59, 3) := by decide +kernel
theorem dX6_init_149 : decode cX6_init 149 = .ok (.aload_n 0, 1) := by decide +kernel
theorem dX6_init_150 : decode cX6_init 150 = .ok (.sipush 768, 3) := by decide +kernel
theorem dX6_init_153 : decode cX6_init 153 = .ok (.newarray .int, 2) := by decide +kernel
theorem dX6_init_155 : decode cX6_init 155 = .ok (.putfield 62, 3) := by decide +kernel
theorem dX6_init_158 : decode cX6_init 158 = .ok (.aload_n 0, 1) := by decide +kernel
theorem dX6_init_159 : decode cX6_init 159 = .ok (.sipush 768, 3) := by decide +kernel
theorem dX6_init_162 : decode cX6_init 162 = .ok (.newarray .long, 2) := by decide +kernel
theorem dX6_init_164 : decode cX6_init 164 = .ok (.putfield 65, 3) := by decide +kernel
theorem dX6_init_167 : decode cX6_init 167 = .ok (.aload_n 0, 1) := by decide +kernel
theorem dX6_init_168 : decode cX6_init 168 = .ok (.sipush 384, 3) := by decide +kernel
theorem dX6_init_171 : decode cX6_init 171 = .ok (.newarray .int, 2) := by decide +kernel
theorem dX6_init_173 : decode cX6_init 173 = .ok (.putfield 68, 3) := by decide +kernel
theorem dX6_init_176 : decode cX6_init 176 = .ok (.aload_n 0, 1) := by decide +kernel
theorem dX6_init_177 : decode cX6_init 177 = .ok (.sipush 384, 3) := by decide +kernel
theorem dX6_init_180 : decode cX6_init 180 = .ok (.newarray .int, 2) := by decide +kernel
theorem dX6_init_182 : decode cX6_init 182 = .ok (.putfield 71, 3) := by decide +kernel
theorem dX6_init_185 : decode cX6_init 185 = .ok (.aload_n 0, 1) := by decide +kernel
theorem dX6_init_186 : decode cX6_init 186 = .ok (.iconst 4, 1) := by decide +kernel
theorem dX6_init_187 : decode cX6_init 187 = .ok (.newarray .boolean, 2) := by decide +kernel
theorem dX6_init_189 : decode cX6_init 189 = .ok (.putfield 74, 3) := by decide +kernel
theorem dX6_init_192 : decode cX6_init 192 = .ok (.aload_n 0, 1) := by decide +kernel
theorem dX6_init_193 : decode cX6_init 193 = .ok (.iconst 4, 1) := by decide +kernel
theorem dX6_init_194 : decode cX6_init 194 = .ok (.newarray .boolean, 2) := by decide +kernel
theorem dX6_init_196 : decode cX6_init 196 = .ok (.putfield 78, 3) := by decide +kernel
theorem dX6_init_199 : decode cX6_init 199 = .ok (.aload_n 0, 1) := by decide +kernel
theorem dX6_init_200 : decode cX6_init 200 = .ok (.sipush 4700, 3) := by decide +kernel
theorem dX6_init_203 : decode cX6_init 203 = .ok (.newarray .boolean, 2) := by decide +kernel
theorem dX6_init_205 : decode cX6_init 205 = .ok (.putfield 81, 3) := by decide +kernel
theorem dX6_init_208 : decode cX6_init 208 = .ok (.aload_n 0, 1) := by decide +kernel
theorem dX6_init_209 : decode cX6_init 209 = .ok (.sipush 4700, 3) := by decide +kernel
theorem dX6_init_212 : decode cX6_init 212 = .ok (.newarray .int, 2) := by decide +kernel
theorem dX6_init_214 : decode cX6_init 214 = .ok (.putfield 84, 3) := by decide +kernel
theorem dX6_init_217 : decode cX6_init 217 = .ok (.aload_n 0, 1) := by decide +kernel
theorem dX6_init_218 : decode cX6_init 218 = .ok (.sipush 4700, 3) := by decide +kernel
theorem dX6_init_221 : decode cX6_init 221 = .ok (.newarray .int, 2) := by decide +kernel
theorem dX6_init_223 : decode cX6_init 223 = .ok (.putfield 87, 3) := by decide +kernel
theorem dX6_init_226 : decode cX6_init 226 = .ok (.aload_n 0, 1) := by decide +kernel
theorem dX6_init_227 : decode cX6_init 227 = .ok (.sipush 4700, 3) := by decide +kernel
theorem dX6_init_230 : decode cX6_init 230 = .ok (.newarray .int, 2) := by decide +kernel
theorem dX6_init_232 : decode cX6_init 232 = .ok (.putfield 90, 3) := by decide +kernel
theorem dX6_init_235 : decode cX6_init 235 = .ok (.aload_n 0, 1) := by decide +kernel
theorem dX6_init_236 : decode cX6_init 236 = .ok (.sipush 4700, 3) := by decide +kernel
theorem dX6_init_239 : decode cX6_init 239 = .ok (.newarray .int, 2) := by decide +kernel
theorem dX6_init_241 : decode cX6_init 241 = .ok (.putfield 93, 3) := by decide +kernel
theorem dX6_init_244 : decode cX6_init 244 = .ok (.aload_n 0, 1) := by decide +kernel
theorem dX6_init_245 : decode cX6_init 245 = .ok (.sipush 4700, 3) := by decide +kernel
theorem dX6_init_248 : decode cX6_init 248 = .ok (.newarray .int, 2) := by decide +kernel
theorem dX6_init_250 : decode cX6_init 250 = .ok (.putfield 96, 3) := by decide +kernel
theorem dX6_init_253 : decode cX6_init 253 = .ok (.aload_n 0, 1) := by decide +kernel
theorem dX6_init_254 : decode cX6_init 254 = .ok (.sipush 4700, 3) := by decide +kernel
theorem dX6_init_257 : decode cX6_init 257 = .ok (.newarray .int, 2) := by decide +kernel
theorem dX6_init_259 : decode cX6_init 259 = .ok (.putfield 99, 3) := by decide +kernel
theorem dX6_init_262 : decode cX6_init 262 = .ok (.aload_n 0, 1) := by decide +kernel
theorem dX6_init_263 : decode cX6_init 263 = .ok (.sipush 4700, 3) := by decide +kernel
theorem dX6_init_266 : decode cX6_init 266 = .ok (.newarray .int, 2) := by decide +kernel
theorem dX6_init_268 : decode cX6_init 268 = .ok (.putfield 102, 3) := by decide +kernel
theorem dX6_init_271 : decode cX6_init 271 = .ok (.aload_n 0, 1) := by decide +kernel
theorem dX6_init_272 : decode cX6_init 272 = .ok (.sipush 4700, 3) := by decide +kernel
theorem dX6_init_275 : decode cX6_init 275 = .ok (.newarray .int, 2) := by decide +kernel
theorem dX6_init_277 : decode cX6_init 277 = .ok (.putfield 105, 3) := by decide +kernel
theorem dX6_init_280 : decode cX6_init 280 = .ok (.aload_n 0, 1) := by decide +kernel
theorem dX6_init_281 : decode cX6_init 281 = .ok (.sipush 4700, 3) := by decide +kernel
theorem dX6_init_284 : decode cX6_init 284 = .ok (.newarray .long, 2) := by decide +kernel
theorem dX6_init_286 : decode cX6_init 286 = .ok (.putfield 108, 3) := by decide +kernel
theorem dX6_init_289 : decode cX6_init 289 = .ok (.aload_n 0, 1) := by decide +kernel
theorem dX6_init_290 : decode cX6_init 290 = .ok (.sipush 4700, 3) := by decide +kernel
theorem dX6_init_293 : decode cX6_init 293 = .ok (.newarray .long, 2) := by decide +kernel
theorem dX6_init_295 : decode cX6_init 295 = .ok (.putfield 111, 3) := by decide +kernel
theorem dX6_init_298 : decode cX6_init 298 = .ok (.aload_n 0, 1) := by decide +kernel
theorem dX6_init_299 : decode cX6_init 299 = .ok (.sipush 18800, 3) := by decide +kernel
theorem dX6_init_302 : decode cX6_init 302 = .ok (.newarray .long, 2) := by decide +kernel
theorem dX6_init_304 : decode cX6_init 304 = .ok (.putfield 114, 3) := by decide +kernel
theorem dX6_init_307 : decode cX6_init 307 = .ok (.aload_n 0, 1) := by decide +kernel
theorem dX6_init_308 : decode cX6_init 308 = .ok (.ldc 117, 2) := by decide +kernel
theorem dX6_init_310 : decode cX6_init 310 = .ok (.newarray .int, 2) := by decide +kernel
theorem dX6_init_312 : decode cX6_init 312 = .ok (.putfield 118, 3) := by decide +kernel
theorem dX6_init_315 : decode cX6_init 315 = .ok (.aload_n 0, 1) := by decide +kernel
theorem dX6_init_316 : decode cX6_init 316 = .ok (.ldc 117, 2) := by decide +kernel
theorem dX6_init_318 : decode cX6_init 318 = .ok (.newarray .int, 2) := by decide +kernel
theorem dX6_init_320 : decode cX6_init 320 = .ok (.putfield 121, 3) := by decide +kernel
theorem dX6_init_323 : decode cX6_init 323 = .ok (.aload_n 0, 1) := by decide +kernel
theorem dX6_init_324 : decode cX6_init 324 = .ok (.ldc 117, 2) := by decide +kernel
theorem dX6_init_326 : decode cX6_init 326 = .ok (.newarray .int, 2) := by decide +kernel
theorem dX6_init_328 : decode cX6_init 328 = .ok (.putfield 124, 3) := by decide +kernel
theorem dX6_init_331 : decode cX6_init 331 = .ok (.aload_n 0, 1) := by decide +kernel
theorem dX6_init_332 : decode cX6_init 332 = .ok (.ldc 117, 2) := by decide +kernel
theorem dX6_init_334 : decode cX6_init 334 = .ok (.newarray .long, 2) := by decide +kernel
theorem dX6_init_336 : decode cX6_init 336 = .ok (.putfield 127, 3) := by decide +kernel
theorem dX6_init_339 : decode cX6_init 339 = .ok (.aload_n 0, 1) := by decide +kernel
theorem dX6_init_340 : decode cX6_init 340 = .ok (.sipush 28200, 3) := by decide +kernel
theorem dX6_init_343 : decode cX6_init 343 = .ok (.newarray .int, 2) := by decide +kernel
theorem dX6_init_345 : decode cX6_init 345 = .ok (.putfield 130, 3) := by decide +kernel
theorem dX6_init_348 : decode cX6_init 348 = .ok (.aload_n 0, 1) := by decide +kernel
theorem dX6_init_349 : decode cX6_init 349 = .ok (.sipush 28200, 3) := by decide +kernel
theorem dX6_init_352 : decode cX6_init 352 = .ok (.newarray .int, 2) := by decide +kernel
theorem dX6_init_354 : decode cX6_init 354 = .ok (.putfield 133, 3) := by decide +kernel
theorem dX6_init_357 : decode cX6_init 357 = .ok (.aload_n 0, 1) := by decide +kernel
theorem dX6_init_358 : decode cX6_init 358 = .ok (.sipush 400, 3) := by decide +kernel
theorem dX6_init_361 : decode cX6_init 361 = .ok (.newarray .int, 2) := by decide +kernel
theorem dX6_init_363 : decode cX6_init 363 = .ok (.putfield 136, 3) := by decide +kernel
theorem dX6_init_366 : decode cX6_init 366 = .ok (.aload_n 0, 1) := by decide +kernel
theorem dX6_init_367 : decode cX6_init 367 = .ok (.sipush 16800, 3) := by decide +kernel
theorem dX6_init_370 : decode cX6_init 370 = .ok (.newarray .int, 2) := by decide +kernel
theorem dX6_init_372 : decode cX6_init 372 = .ok (.putfield 139, 3) := by decide +kernel
theorem dX6_init_375 : decode cX6_init 375 = .ok (.aload_n 0, 1) := by decide +kernel
theorem dX6_init_376 : decode cX6_init 376 = .ok (.iconst 4, 1) := by decide +kernel
theorem dX6_init_377 : decode cX6_init 377 = .ok (.newarray .int, 2) := by decide +kernel
theorem dX6_init_379 : decode cX6_init 379 = .ok (.putfield 142, 3) := by decide +kernel
theorem dX6_init_382 : decode cX6_init 382 = .ok (.aload_n 0, 1) := by decide +kernel
theorem dX6_init_383 : decode cX6_init 383 = .ok (.iload_n 1, 1) := by decide +kernel
theorem dX6_init_384 : decode cX6_init 384 = .ok (.iconst 2, 1) := by decide +kernel
theorem dX6_init_385 : decode cX6_init 385 = .ok (.if_icmp .lt 12, 3) := by decide +kernel
theorem dX6_init_388 : decode cX6_init 388 = .ok (.iload_n 1, 1) := by decide +kernel
theorem dX6_init_389 : decode cX6_init 389 = .ok (.iconst 4, 1) := by decide +kernel
theorem dX6_init_390 : decode cX6_init 390 = .ok (.if_icmp .gt 7, 3) := by decide +kernel
theorem dX6_init_393 : decode cX6_init 393 = .ok (.iload_n 1, 1) := by decide +kernel
theorem dX6_init_394 : decode cX6_init 394 = .ok (.goto 4, 3) := by decide +kernel
theorem dX6_init_397 : decode cX6_init 397 = .ok (.iconst 3, 1) := by decide +kernel
theorem dX6_init_398 : decode cX6_init 398 = .ok (.putfield 145, 3) := by decide +kernel
theorem dX6_init_401 : decode cX6_init 401 = .ok (.aload_n 0, 1) := by decide +kernel
theorem dX6_init_402 : decode cX6_init 402 = .ok (.iload_n 2, 1) := by decide +kernel
theorem dX6_init_403 : decode cX6_init 403 = .ok (.iconst 1, 1) := by decide +kernel
theorem dX6_init_404 : decode cX6_init 404 = .ok (.if_icmp .lt 14, 3) := by decide +kernel
theorem dX6_init_407 : decode cX6_init 407 = .ok (.iload_n 2, 1) := by decide +kernel
theorem dX6_init_408 : decode cX6_init 408 = .ok (.sipush 1000, 3) := by decide +kernel
theorem dX6_init_411 : decode cX6_init 411 = .ok (.if_icmp .gt 7, 3) := by decide +kernel
theorem dX6_init_414 : decode cX6_init 414 = .ok (.iload_n 2, 1) := by decide +kernel
theorem dX6_init_415 : decode cX6_init 415 = .ok (.goto 5, 3) := by decide +kernel
theorem dX6_init_418 : decode cX6_init 418 = .ok (.bipush 50, 2) := by decide +kernel
theorem dX6_init_420 : decode cX6_init 420 = .ok (.putfield 149, 3) := by decide +kernel
theorem dX6_init_423 : decode cX6_init 423 = .ok (.iconst 0, 1) := by decide +kernel
theorem dX6_init_424 : decode cX6_init 424 = .ok (.istore_n 3, 1) := by decide +kernel
theorem dX6_init_425 : decode cX6_init 425 = .ok (.iload_n 3, 1) := by decide +kernel
theorem dX6_init_426 : decode cX6_init 426 = .ok (.bipush 48, 2) := by decide +kernel
theorem dX6_init_428 : decode cX6_init 428 = .ok (.if_icmp .ge 24, 3) := by decide +kernel
theorem dX6_init_431 : decode cX6_init 431 = .ok (.aload_n 0, 1) := by decide +kernel
theorem dX6_init_432 : decode cX6_init 432 = .ok (.getfield 19, 3) := by decide +kernel
theorem dX6_init_435 : decode cX6_init 435 = .ok (.iload_n 3, 1) := by decide +kernel
theorem dX6_init_436 : decode cX6_init 436 = .ok (.iload_n 3, 1) := by decide +kernel
theorem dX6_init_437 : decode cX6_init 437 = .ok (.bipush 8, 2) := by decide +kernel
theorem dX6_init_439 : decode cX6_init 439 = .ok (.irem, 1) := by decide +kernel
theorem dX6_init_440 : decode cX6_init 440 = .ok (.aload_n 0, 1) := by decide +kernel
theorem dX6_init_441 : decode cX6_init 441 = .ok (.getfield 145, 3) := by decide +kernel
theorem dX6_init_444 : decode cX6_init 444 = .ok (.irem, 1) := by decide +kernel
theorem dX6_init_445 : decode cX6_init 445 = .ok (.iastore, 1) := by decide +kernel
theorem dX6_init_446 : decode cX6_init 446 = .ok (.iinc 3 1, 3) := by decide +kernel
theorem dX6_init_449 : decode cX6_init 449 = .ok (.goto (-24), 3) := by decide +kernel
theorem dX6_init_452 : decode cX6_init 452 = .ok (.iconst 0, 1) := by decide +kernel
theorem dX6_init_453 : decode cX6_init 453 = .ok (.istore_n 3, 1) := by decide +kernel
theorem dX6_init_454 : decode cX6_init 454 = .ok (.iload_n 3, 1) := by decide +kernel
theorem dX6_init_455 : decode cX6_init 455 = .ok (.iconst 2, 1) := by decide +kernel
theorem dX6_init_456 : decode cX6_init 456 = .ok (.aload_n 0, 1) := by decide +kernel
theorem dX6_init_457 : decode cX6_init 457 = .ok (.getfield 145, 3) := by decide +kernel
theorem dX6_init_460 : decode cX6_init 460 = .ok (.imul, 1) := by decide +kernel
theorem dX6_init_461 : decode cX6_init 461 = .ok (.if_icmp .ge 117, 3) := by decide +kernel
theorem dX6_init_464 : decode cX6_init 464 = .ok (.iconst 0, 1) := by decide +kernel
theorem dX6_init_465 : decode cX6_init 465 = .ok (.istore 4, 2) := by decide +kernel
theorem dX6_init_467 : decode cX6_init 467 = .ok (.iload 4, 2) := by decide +kernel
theorem dX6_init_469 : decode cX6_init 469 = .ok (.bipush 8, 2) := by decide +kernel
theorem dX6_init_471 : decode cX6_init 471 = .ok (.if_icmp .ge 92, 3) := by decide +kernel
theorem dX6_init_474 : decode cX6_init 474 = .ok (.iload 4, 2) := by decide +kernel
theorem dX6_init_476 : decode cX6_init 476 = .ok (.aload_n 0, 1) := by decide +kernel
theorem dX6_init_477 : decode cX6_init 477 = .ok (.getfield 145, 3) := by decide +kernel
theorem dX6_init_480 : decode cX6_init 480 = .ok (.irem, 1) := by decide +kernel
theorem dX6_init_481 : decode cX6_init 481 = .ok (.iload_n 3, 1) := by decide +kernel
theorem dX6_init_482 : decode cX6_init 482 = .ok (.iconst 2, 1) := by decide +kernel
theorem dX6_init_483 : decode cX6_init 483 = .ok (.idiv, 1) := by decide +kernel
theorem dX6_init_484 : decode cX6_init 484 = .ok (.if_icmp .ne 7, 3) := by decide +kernel
theorem dX6_init_487 : decode cX6_init 487 = .ok (.iconst 1, 1) := by decide +kernel
theorem dX6_init_488 : decode cX6_init 488 = .ok (.goto 4, 3) := by decide +kernel
theorem dX6_init_491 : decode cX6_init 491 = .ok (.iconst 0, 1) := by decide +kernel
theorem dX6_init_492 : decode cX6_init 492 = .ok (.istore 5, 2) := by decide +kernel
theorem dX6_init_494 : decode cX6_init 494 = .ok (.aload_n 0, 1) := by decide +kernel
theorem dX6_init_495 : decode cX6_init 495 = .ok (.getfield 41, 3) := by decide +kernel
theorem dX6_init_498 : decode cX6_init 498 = .ok (.bipush 8, 2) := by decide +kernel
theorem dX6_init_500 : decode cX6_init 500 = .ok (.iload_n 3, 1) := by decide +kernel
theorem dX6_init_501 : decode cX6_init 501 = .ok (.imul, 1) := by decide +kernel
theorem dX6_init_502 : decode cX6_init 502 = .ok (.iload 4, 2) := by decide +kernel
theorem dX6_init_504 : decode cX6_init 504 = .ok (.iadd, 1) := by decide +kernel
theorem dX6_init_505 : decode cX6_init 505 = .ok (.iload 5, 2) := by decide +kernel
theorem dX6_init_507 : decode cX6_init 507 = .ok (.ifCond .eq 7, 3) := by decide +kernel
theorem dX6_init_510 : decode cX6_init 510 = .ok (.iconst 1, 1) := by decide +kernel
theorem dX6_init_511 : decode cX6_init 511 = .ok (.goto 4, 3) := by decide +kernel
theorem dX6_init_514 : decode cX6_init 514 = .ok (.iconst 0, 1) := by decide +kernel
theorem dX6_init_515 : decode cX6_init 515 = .ok (.iastore, 1) := by decide +kernel
theorem dX6_init_516 : decode cX6_init 516 = .ok (.aload_n 0, 1) := by decide +kernel
theorem dX6_init_517 : decode cX6_init 517 = .ok (.getfield 44, 3) := by decide +kernel
theorem dX6_init_520 : decode cX6_init 520 = .ok (.bipush 8, 2) := by decide +kernel
theorem dX6_init_522 : decode cX6_init 522 = .ok (.iload_n 3, 1) := by decide +kernel
theorem dX6_init_523 : decode cX6_init 523 = .ok (.imul, 1) := by decide +kernel
theorem dX6_init_524 : decode cX6_init 524 = .ok (.iload 4, 2) := by decide +kernel
theorem dX6_init_526 : decode cX6_init 526 = .ok (.iadd, 1) := by decide +kernel
theorem dX6_init_527 : decode cX6_init 527 = .ok (.iload 5, 2) := by decide +kernel
theorem dX6_init_529 : decode cX6_init 529 = .ok (.ifCond .eq 7, 3) := by decide +kernel
theorem dX6_init_532 : decode cX6_init 532 = .ok (.iconst 1, 1) := by decide +kernel
theorem dX6_init_533 : decode cX6_init 533 = .ok (.goto 4, 3) := by decide +kernel
theorem dX6_init_536 : decode cX6_init 536 = .ok (.iconst 0, 1) := by decide +kernel
theorem dX6_init_537 : decode cX6_init 537 = .ok (.iastore, 1) := by decide +kernel
theorem dX6_init_538 : decode cX6_init 538 = .ok (.aload_n 0, 1) := by decide +kernel
theorem dX6_init_539 : decode cX6_init 539 = .ok (.getfield 47, 3) := by decide +kernel
theorem dX6_init_542 : decode cX6_init 542 = .ok (.bipush 8, 2) := by decide +kernel
theorem dX6_init_544 : decode cX6_init 544 = .ok (.iload_n 3, 1) := by decide +kernel
theorem dX6_init_545 : decode cX6_init 545 = .ok (.imul, 1) := by decide +kernel
theorem dX6_init_546 : decode cX6_init 546 = .ok (.iload 4, 2) := by decide +kernel
theorem dX6_init_548 : decode cX6_init 548 = .ok (.iadd, 1) := by decide +kernel
theorem dX6_init_549 : decode cX6_init 549 = .ok (.iload 4, 2) := by decide +kernel
theorem dX6_init_551 : decode cX6_init 551 = .ok (.aload_n 0, 1) := by decide +kernel
theorem dX6_init_552 : decode cX6_init 552 = .ok (.getfield 145, 3) := by decide +kernel
theorem dX6_init_555 : decode cX6_init 555 = .ok (.irem, 1) := by decide +kernel
theorem dX6_init_556 : decode cX6_init 556 = .ok (.iastore, 1) := by decide +kernel
theorem dX6_init_557 : decode cX6_init 557 = .ok (.iinc 4 1, 3) := by decide +kernel
theorem dX6_init_560 : decode cX6_init 560 = .ok (.goto (-93), 3) := by decide +kernel
theorem dX6_init_563 : decode cX6_init 563 = .ok (.aload_n 0, 1) := by decide +kernel
theorem dX6_init_564 : decode cX6_init 564 = .ok (.getfield 74, 3) := by decide +kernel
theorem dX6_init_567 : decode cX6_init 567 = .ok (.iload_n 3, 1) := by decide +kernel
theorem dX6_init_568 : decode cX6_init 568 = .ok (.iconst 2, 1) := by decide +kernel
theorem dX6_init_569 : decode cX6_init 569 = .ok (.idiv, 1) := by decide +kernel
theorem dX6_init_570 : decode cX6_init 570 = .ok (.iconst 1, 1) := by decide +kernel
theorem dX6_init_571 : decode cX6_init 571 = .ok (.bastore, 1) := by decide +kernel
theorem dX6_init_572 : decode cX6_init 572 = .ok (.iinc 3 1, 3) := by decide +kernel
theorem dX6_init_575 : decode cX6_init 575 = .ok (.goto (-121), 3) := by decide +kernel
theorem dX6_init_578 : decode cX6_init 578 = .ok (.return_, 1) := by decide +kernel
theorem dX6_in_0 : decode cX6_in 0 = .ok (.iload_n 0, 1) := by decide +kernel
theorem dX6_in_1 : decode cX6_in 1 = .ok (.iload_n 1, 1) := by decide +kernel
theorem dX6_in_2 : decode cX6_in 2 = .ok (.if_icmp .lt 12, 3) := by decide +kernel
theorem dX6_in_5 : decode cX6_in 5 = .ok (.iload_n 0, 1) := by decide +kernel
theorem dX6_in_6 : decode cX6_in 6 = .ok (.iload_n 2, 1) := by decide +kernel
theorem dX6_in_7 : decode cX6_in 7 = .ok (.if_icmp .gt 7, 3) := by decide +kernel
theorem dX6_in_10 : decode cX6_in 10 = .ok (.iconst 1, 1) := by decide +kernel
theorem dX6_in_11 : decode cX6_in 11 = .ok (.goto 4, 3) := by decide +kernel
theorem dX6_in_14 : decode cX6_in 14 = .ok (.iconst 0, 1) := by decide +kernel
theorem dX6_in_15 : decode cX6_in 15 = .ok (.ireturn, 1) := by decide +kernel
theorem dX6_isClient_0 : decode cX6_isClient 0 = .ok (.iload_n 0, 1) := by decide +kernel
theorem dX6_isClient_1 : decode cX6_isClient 1 = .ok (.iconst 0, 1) := by decide +kernel
theorem dX6_isClient_2 : decode cX6_isClient 2 = .ok (.iconst 5, 1) := by decide +kernel
theorem dX6_isClient_3 : decode cX6_isClient 3 = .ok (.invokestatic 152, 3) := by decide +kernel
theorem dX6_isClient_6 : decode cX6_isClient 6 = .ok (.ireturn, 1) := by decide +kernel
theorem dX6_isServer_0 : decode cX6_isServer 0 = .ok (.iload_n 1, 1) := by decide +kernel
theorem dX6_isServer_1 : decode cX6_isServer 1 = .ok (.iconst 0, 1) := by decide +kernel
theorem dX6_isServer_2 : decode cX6_isServer 2 = .ok (.aload_n 0, 1) := by decide +kernel
theorem dX6_isServer_3 : decode cX6_isServer 3 = .ok (.getfield 145, 3) := by decide +kernel
theorem dX6_isServer_6 : decode cX6_isServer 6 = .ok (.iconst 1, 1) := by decide +kernel
theorem dX6_isServer_7 : decode cX6_isServer 7 = .ok (.isub, 1) := by decide +kernel
theorem dX6_isServer_8 : decode cX6_isServer 8 = .ok (.invokestatic 152, 3) := by decide +kernel
theorem dX6_isServer_11 : decode cX6_isServer 11 = .ok (.ireturn, 1) := by decide +kernel
theorem dX6_isLive_0 : decode cX6_isLive 0 = .ok (.iconst 0, 1) := by decide +kernel
theorem dX6_isLive_1 : decode cX6_isLive 1 = .ok (.istore_n 2, 1) := by decide +kernel
theorem dX6_isLive_2 : decode cX6_isLive 2 = .ok (.iconst 0, 1) := by decide +kernel
theorem dX6_isLive_3 : decode cX6_isLive 3 = .ok (.istore_n 3, 1) := by decide +kernel
theorem dX6_isLive_4 : decode cX6_isLive 4 = .ok (.iload_n 3, 1) := by decide +kernel
theorem dX6_isLive_5 : decode cX6_isLive 5 = .ok (.bipush 6, 2) := by decide +kernel
theorem dX6_isLive_7 : decode cX6_isLive 7 = .ok (.if_icmp .ge 44, 3) := by decide +kernel
theorem dX6_isLive_10 : decode cX6_isLive 10 = .ok (.iload_n 2, 1) := by decide +kernel
theorem dX6_isLive_11 : decode cX6_isLive 11 = .ok (.iload_n 1, 1) := by decide +kernel
theorem dX6_isLive_12 : decode cX6_isLive 12 = .ok (.ifCond .le 30, 3) := by decide +kernel
theorem dX6_isLive_15 : decode cX6_isLive 15 = .ok (.aload_n 0, 1) := by decide +kernel
theorem dX6_isLive_16 : decode cX6_isLive 16 = .ok (.getfield 7, 3) := by decide +kernel
theorem dX6_isLive_19 : decode cX6_isLive 19 = .ok (.iload_n 3, 1) := by decide +kernel
theorem dX6_isLive_20 : decode cX6_isLive 20 = .ok (.iaload, 1) := by decide +kernel
theorem dX6_isLive_21 : decode cX6_isLive 21 = .ok (.iload_n 1, 1) := by decide +kernel
theorem dX6_isLive_22 : decode cX6_isLive 22 = .ok (.if_icmp .ne 20, 3) := by decide +kernel
theorem dX6_isLive_25 : decode cX6_isLive 25 = .ok (.aload_n 0, 1) := by decide +kernel
theorem dX6_isLive_26 : decode cX6_isLive 26 = .ok (.getfield 156, 3) := by decide +kernel
theorem dX6_isLive_29 : decode cX6_isLive 29 = .ok (.aload_n 0, 1) := by decide +kernel
theorem dX6_isLive_30 : decode cX6_isLive 30 = .ok (.getfield 13, 3) := by decide +kernel
theorem dX6_isLive_33 : decode cX6_isLive 33 = .ok (.iload_n 3, 1) := by decide +kernel
theorem dX6_isLive_34 : decode cX6_isLive 34 = .ok (.iaload, 1) := by decide +kernel
theorem dX6_isLive_35 : decode cX6_isLive 35 = .ok (.if_icmp .gt 7, 3) := by decide +kernel
theorem dX6_isLive_38 : decode cX6_isLive 38 = .ok (.iconst 1, 1) := by decide +kernel
theorem dX6_isLive_39 : decode cX6_isLive 39 = .ok (.goto 4, 3) := by decide +kernel
theorem dX6_isLive_42 : decode cX6_isLive 42 = .ok (.iconst 0, 1) := by decide +kernel
theorem dX6_isLive_43 : decode cX6_isLive 43 = .ok (.ior, 1) := by decide +kernel
theorem dX6_isLive_44 : decode cX6_isLive 44 = .ok (.istore_n 2, 1) := by decide +kernel
theorem dX6_isLive_45 : decode cX6_isLive 45 = .ok (.iinc 3 1, 3) := by decide +kernel
theorem dX6_isLive_48 : decode cX6_isLive 48 = .ok (.goto (-44), 3) := by decide +kernel
theorem dX6_isLive_51 : decode cX6_isLive 51 = .ok (.iload_n 2, 1) := by decide +kernel
theorem dX6_isLive_52 : decode cX6_isLive 52 = .ok (.ireturn, 1) := by decide +kernel
theorem dX6_first_0 : decode cX6_first 0 = .ok (.iconst 1, 1) := by decide +kernel
theorem dX6_first_1 : decode cX6_first 1 = .ok (.istore_n 2, 1) := by decide +kernel
theorem dX6_first_2 : decode cX6_first 2 = .ok (.iload_n 2, 1) := by decide +kernel
theorem dX6_first_3 : decode cX6_first 3 = .ok (.aload_n 0, 1) := by decide +kernel
theorem dX6_first_4 : decode cX6_first 4 = .ok (.getfield 16, 3) := by decide +kernel
theorem dX6_first_7 : decode cX6_first 7 = .ok (.iload_n 1, 1) := by decide +kernel
theorem dX6_first_8 : decode cX6_first 8 = .ok (.iaload, 1) := by decide +kernel
theorem dX6_first_9 : decode cX6_first 9 = .ok (.if_icmp .gt 25, 3) := by decide +kernel
theorem dX6_first_12 : decode cX6_first 12 = .ok (.aload_n 0, 1) := by decide +kernel
theorem dX6_first_13 : decode cX6_first 13 = .ok (.getfield 22, 3) := by decide +kernel
theorem dX6_first_16 : decode cX6_first 16 = .ok (.bipush 60, 2) := by decide +kernel
theorem dX6_first_18 : decode cX6_first 18 = .ok (.iload_n 1, 1) := by decide +kernel
theorem dX6_first_19 : decode cX6_first 19 = .ok (.imul, 1) := by decide +kernel
theorem dX6_first_20 : decode cX6_first 20 = .ok (.iload_n 2, 1) := by decide +kernel
theorem dX6_first_21 : decode cX6_first 21 = .ok (.iadd, 1) := by decide +kernel
theorem dX6_first_22 : decode cX6_first 22 = .ok (.iconst 1, 1) := by decide +kernel
theorem dX6_first_23 : decode cX6_first 23 = .ok (.isub, 1) := by decide +kernel
theorem dX6_first_24 : decode cX6_first 24 = .ok (.iaload, 1) := by decide +kernel
theorem dX6_first_25 : decode cX6_first 25 = .ok (.ifCond .eq 9, 3) := by decide +kernel
theorem dX6_first_28 : decode cX6_first 28 = .ok (.iinc 2 1, 3) := by decide +kernel
theorem dX6_first_31 : decode cX6_first 31 = .ok (.goto (-29), 3) := by decide +kernel
theorem dX6_first_34 : decode cX6_first 34 = .ok (.iload_n 2, 1) := by decide +kernel
theorem dX6_first_35 : decode cX6_first 35 = .ok (.ireturn, 1) := by decide +kernel
theorem dX6_letter_0 : decode cX6_letter 0 = .ok (.aload_n 0, 1) := by decide +kernel
theorem dX6_letter_1 : decode cX6_letter 1 = .ok (.getfield 81, 3) := by decide +kernel
theorem dX6_letter_4 : decode cX6_letter 4 = .ok (.aload_n 0, 1) := by decide +kernel
theorem dX6_letter_5 : decode cX6_letter 5 = .ok (.getfield 159, 3) := by decide +kernel
theorem dX6_letter_8 : decode cX6_letter 8 = .ok (.baload, 1) := by decide +kernel
theorem dX6_letter_9 : decode cX6_letter 9 = .ok (.ifCond .eq 30, 3) := by decide +kernel
theorem dX6_letter_12 : decode cX6_letter 12 = .ok (.aload_n 0, 1) := by decide +kernel
theorem dX6_letter_13 : decode cX6_letter 13 = .ok (.aload_n 0, 1) := by decide +kernel
theorem dX6_letter_14 : decode cX6_letter 14 = .ok (.getfield 159, 3) := by decide +kernel
theorem dX6_letter_17 : decode cX6_letter 17 = .ok (.sipush 4699, 3) := by decide +kernel
theorem dX6_letter_20 : decode cX6_letter 20 = .ok (.if_icmp .ne 7, 3) := by decide +kernel
theorem dX6_letter_23 : decode cX6_letter 23 = .ok (.iconst 0, 1) := by decide +kernel
theorem dX6_letter_24 : decode cX6_letter 24 = .ok (.goto 9, 3) := by decide +kernel
theorem dX6_letter_27 : decode cX6_letter 27 = .ok (.aload_n 0, 1) := by decide +kernel
theorem dX6_letter_28 : decode cX6_letter 28 = .ok (.getfield 159, 3) := by decide +kernel
theorem dX6_letter_31 : decode cX6_letter 31 = .ok (.iconst 1, 1) := by decide +kernel
theorem dX6_letter_32 : decode cX6_letter 32 = .ok (.iadd, 1) := by decide +kernel
theorem dX6_letter_33 : decode cX6_letter 33 = .ok (.putfield 159, 3) := by decide +kernel
theorem dX6_letter_36 : decode cX6_letter 36 = .ok (.goto (-36), 3) := by decide +kernel
theorem dX6_letter_39 : decode cX6_letter 39 = .ok (.aload_n 0, 1) := by decide +kernel
theorem dX6_letter_40 : decode cX6_letter 40 = .ok (.getfield 159, 3) := by decide +kernel
theorem dX6_letter_43 : decode cX6_letter 43 = .ok (.istore 4, 2) := by decide +kernel
theorem dX6_letter_45 : decode cX6_letter 45 = .ok (.aload_n 0, 1) := by decide +kernel
theorem dX6_letter_46 : decode cX6_letter 46 = .ok (.getfield 81, 3) := by decide +kernel
theorem dX6_letter_49 : decode cX6_letter 49 = .ok (.iload 4, 2) := by decide +kernel
theorem dX6_letter_51 : decode cX6_letter 51 = .ok (.iconst 1, 1) := by decide +kernel
theorem dX6_letter_52 : decode cX6_letter 52 = .ok (.bastore, 1) := by decide +kernel
theorem dX6_letter_53 : decode cX6_letter 53 = .ok (.aload_n 0, 1) := by decide +kernel
theorem dX6_letter_54 : decode cX6_letter 54 = .ok (.getfield 84, 3) := by decide +kernel
theorem dX6_letter_57 : decode cX6_letter 57 = .ok (.iload 4, 2) := by decide +kernel
theorem dX6_letter_59 : decode cX6_letter 59 = .ok (.iload_n 1, 1) := by decide +kernel
theorem dX6_letter_60 : decode cX6_letter 60 = .ok (.iastore, 1) := by decide +kernel
theorem dX6_letter_61 : decode cX6_letter 61 = .ok (.aload_n 0, 1) := by decide +kernel
theorem dX6_letter_62 : decode cX6_letter 62 = .ok (.getfield 87, 3) := by decide +kernel
theorem dX6_letter_65 : decode cX6_letter 65 = .ok (.iload 4, 2) := by decide +kernel
theorem dX6_letter_67 : decode cX6_letter 67 = .ok (.iload_n 2, 1) := by decide +kernel
theorem dX6_letter_68 : decode cX6_letter 68 = .ok (.iastore, 1) := by decide +kernel
theorem dX6_letter_69 : decode cX6_letter 69 = .ok (.aload_n 0, 1) := by decide +kernel
theorem dX6_letter_70 : decode cX6_letter 70 = .ok (.getfield 90, 3) := by decide +kernel
theorem dX6_letter_73 : decode cX6_letter 73 = .ok (.iload 4, 2) := by decide +kernel
theorem dX6_letter_75 : decode cX6_letter 75 = .ok (.iload_n 3, 1) := by decide +kernel
theorem dX6_letter_76 : decode cX6_letter 76 = .ok (.iastore, 1) := by decide +kernel
theorem dX6_letter_77 : decode cX6_letter 77 = .ok (.aload_n 0, 1) := by decide +kernel
theorem dX6_letter_78 : decode cX6_letter 78 = .ok (.getfield 93, 3) := by decide +kernel
theorem dX6_letter_81 : decode cX6_letter 81 = .ok (.iload 4, 2) := by decide +kernel
theorem dX6_letter_83 : decode cX6_letter 83 = .ok (.iconst 0, 1) := by decide +kernel
theorem dX6_letter_84 : decode cX6_letter 84 = .ok (.iastore, 1) := by decide +kernel
theorem dX6_letter_85 : decode cX6_letter 85 = .ok (.aload_n 0, 1) := by decide +kernel
theorem dX6_letter_86 : decode cX6_letter 86 = .ok (.getfield 96, 3) := by decide +kernel
theorem dX6_letter_89 : decode cX6_letter 89 = .ok (.iload 4, 2) := by decide +kernel
theorem dX6_letter_91 : decode cX6_letter 91 = .ok (.iconst 0, 1) := by decide +kernel
theorem dX6_letter_92 : decode cX6_letter 92 = .ok (.iastore, 1) := by decide +kernel
theorem dX6_letter_93 : decode cX6_letter 93 = .ok (.aload_n 0, 1) := by decide +kernel
theorem dX6_letter_94 : decode cX6_letter 94 = .ok (.getfield 99, 3) := by decide +kernel
theorem dX6_letter_97 : decode cX6_letter 97 = .ok (.iload 4, 2) := by decide +kernel
theorem dX6_letter_99 : decode cX6_letter 99 = .ok (.iconst 0, 1) := by decide +kernel
theorem dX6_letter_100 : decode cX6_letter 100 = .ok (.iastore, 1) := by decide +kernel
theorem dX6_letter_101 : decode cX6_letter 101 = .ok (.aload_n 0, 1) := by decide +kernel
theorem dX6_letter_102 : decode cX6_letter 102 = .ok (.getfield 102, 3) := by decide +kernel
theorem dX6_letter_105 : decode cX6_letter 105 = .ok (.iload 4, 2) := by decide +kernel
theorem dX6_letter_107 : decode cX6_letter 107 = .ok (.iconst 0, 1) := by decide +kernel
theorem dX6_letter_108 : decode cX6_letter 108 = .ok (.iastore, 1) := by decide +kernel
theorem dX6_letter_109 : decode cX6_letter 109 = .ok (.aload_n 0, 1) := by decide +kernel
theorem dX6_letter_110 : decode cX6_letter 110 = .ok (.getfield 105, 3) := by decide +kernel
theorem dX6_letter_113 : decode cX6_letter 113 = .ok (.iload 4, 2) := by decide +kernel
theorem dX6_letter_115 : decode cX6_letter 115 = .ok (.iconst 0, 1) := by decide +kernel
theorem dX6_letter_116 : decode cX6_letter 116 = .ok (.iastore, 1) := by decide +kernel
theorem dX6_letter_117 : decode cX6_letter 117 = .ok (.aload_n 0, 1) := by decide +kernel
theorem dX6_letter_118 : decode cX6_letter 118 = .ok (.getfield 108, 3) := by decide +kernel
theorem dX6_letter_121 : decode cX6_letter 121 = .ok (.iload 4, 2) := by decide +kernel
theorem dX6_letter_123 : decode cX6_letter 123 = .ok (.lconst 0, 1) := by decide +kernel
theorem dX6_letter_124 : decode cX6_letter 124 = .ok (.lastore, 1) := by decide +kernel
theorem dX6_letter_125 : decode cX6_letter 125 = .ok (.aload_n 0, 1) := by decide +kernel
theorem dX6_letter_126 : decode cX6_letter 126 = .ok (.getfield 111, 3) := by decide +kernel
theorem dX6_letter_129 : decode cX6_letter 129 = .ok (.iload 4, 2) := by decide +kernel
theorem dX6_letter_131 : decode cX6_letter 131 = .ok (.lconst 0, 1) := by decide +kernel
theorem dX6_letter_132 : decode cX6_letter 132 = .ok (.lastore, 1) := by decide +kernel
theorem dX6_letter_133 : decode cX6_letter 133 = .ok (.iload 4, 2) := by decide +kernel
theorem dX6_letter_135 : decode cX6_letter 135 = .ok (.ireturn, 1) := by decide +kernel
theorem dX6_go_0 : decode cX6_go 0 = .ok (.aload_n 0, 1) := by decide +kernel
theorem dX6_go_1 : decode cX6_go 1 = .ok (.getfield 162, 3) := by decide +kernel
theorem dX6_go_4 : decode cX6_go 4 = .ok (.sipush 400, 3) := by decide +kernel
theorem dX6_go_7 : decode cX6_go 7 = .ok (.if_icmp .ne 21, 3) := by decide +kernel
theorem dX6_go_10 : decode cX6_go 10 = .ok (.aload_n 0, 1) := by decide +kernel
theorem dX6_go_11 : decode cX6_go 11 = .ok (.getfield 81, 3) := by decide +kernel
theorem dX6_go_14 : decode cX6_go 14 = .ok (.iload_n 1, 1) := by decide +kernel
theorem dX6_go_15 : decode cX6_go 15 = .ok (.iconst 0, 1) := by decide +kernel
theorem dX6_go_16 : decode cX6_go 16 = .ok (.bastore, 1) := by decide +kernel
theorem dX6_go_17 : decode cX6_go 17 = .ok (.aload_n 0, 1) := by decide +kernel
theorem dX6_go_18 : decode cX6_go 18 = .ok (.dup, 1) := by decide +kernel
theorem dX6_go_19 : decode cX6_go 19 = .ok (.getfield 165, 3) := by decide +kernel
theorem dX6_go_22 : decode cX6_go 22 = .ok (.iconst 1, 1) := by decide +kernel
theorem dX6_go_23 : decode cX6_go 23 = .ok (.iadd, 1) := by decide +kernel
theorem dX6_go_24 : decode cX6_go 24 = .ok (.putfield 165, 3) := by decide +kernel
theorem dX6_go_27 : decode cX6_go 27 = .ok (.return_, 1) := by decide +kernel
theorem dX6_go_28 : decode cX6_go 28 = .ok (.aload_n 0, 1) := by decide +kernel
theorem dX6_go_29 : decode cX6_go 29 = .ok (.getfield 136, 3) := by decide +kernel
theorem dX6_go_32 : decode cX6_go 32 = .ok (.aload_n 0, 1) := by decide +kernel
theorem dX6_go_33 : decode cX6_go 33 = .ok (.getfield 162, 3) := by decide +kernel
theorem dX6_go_36 : decode cX6_go 36 = .ok (.iload_n 1, 1) := by decide +kernel
theorem dX6_go_37 : decode cX6_go 37 = .ok (.iastore, 1) := by decide +kernel
theorem dX6_go_38 : decode cX6_go 38 = .ok (.aload_n 0, 1) := by decide +kernel
theorem dX6_go_39 : decode cX6_go 39 = .ok (.dup, 1) := by decide +kernel
theorem dX6_go_40 : decode cX6_go 40 = .ok (.getfield 162, 3) := by decide +kernel
theorem dX6_go_43 : decode cX6_go 43 = .ok (.iconst 1, 1) := by decide +kernel
theorem dX6_go_44 : decode cX6_go 44 = .ok (.iadd, 1) := by decide +kernel
theorem dX6_go_45 : decode cX6_go 45 = .ok (.putfield 162, 3) := by decide +kernel
theorem dX6_go_48 : decode cX6_go 48 = .ok (.return_, 1) := by decide +kernel
theorem dX6_sendFrom_0 : decode cX6_sendFrom 0 = .ok (.aload_n 0, 1) := by decide +kernel
theorem dX6_sendFrom_1 : decode cX6_sendFrom 1 = .ok (.getfield 78, 3) := by decide +kernel
theorem dX6_sendFrom_4 : decode cX6_sendFrom 4 = .ok (.iload_n 1, 1) := by decide +kernel
theorem dX6_sendFrom_5 : decode cX6_sendFrom 5 = .ok (.baload, 1) := by decide +kernel
theorem dX6_sendFrom_6 : decode cX6_sendFrom 6 = .ok (.ifCond .ne 9, 3) := by decide +kernel
theorem dX6_sendFrom_9 : decode cX6_sendFrom 9 = .ok (.aload_n 0, 1) := by decide +kernel
theorem dX6_sendFrom_10 : decode cX6_sendFrom 10 = .ok (.iload_n 2, 1) := by decide +kernel
theorem dX6_sendFrom_11 : decode cX6_sendFrom 11 = .ok (.invokevirtual 168, 3) := by decide +kernel
theorem dX6_sendFrom_14 : decode cX6_sendFrom 14 = .ok (.return_, 1) := by decide +kernel
theorem dX6_sendFrom_15 : decode cX6_sendFrom 15 = .ok (.aload_n 0, 1) := by decide +kernel
theorem dX6_sendFrom_16 : decode cX6_sendFrom 16 = .ok (.getfield 139, 3) := by decide +kernel
theorem dX6_sendFrom_19 : decode cX6_sendFrom 19 = .ok (.sipush 4200, 3) := by decide +kernel
theorem dX6_sendFrom_22 : decode cX6_sendFrom 22 = .ok (.iload_n 1, 1) := by decide +kernel
theorem dX6_sendFrom_23 : decode cX6_sendFrom 23 = .ok (.imul, 1) := by decide +kernel
theorem dX6_sendFrom_24 : decode cX6_sendFrom 24 = .ok (.aload_n 0, 1) := by decide +kernel
theorem dX6_sendFrom_25 : decode cX6_sendFrom 25 = .ok (.getfield 142, 3) := by decide +kernel
theorem dX6_sendFrom_28 : decode cX6_sendFrom 28 = .ok (.iload_n 1, 1) := by decide +kernel
theorem dX6_sendFrom_29 : decode cX6_sendFrom 29 = .ok (.iaload, 1) := by decide +kernel
theorem dX6_sendFrom_30 : decode cX6_sendFrom 30 = .ok (.iadd, 1) := by decide +kernel
theorem dX6_sendFrom_31 : decode cX6_sendFrom 31 = .ok (.iload_n 2, 1) := by decide +kernel
theorem dX6_sendFrom_32 : decode cX6_sendFrom 32 = .ok (.iastore, 1) := by decide +kernel
theorem dX6_sendFrom_33 : decode cX6_sendFrom 33 = .ok (.aload_n 0, 1) := by decide +kernel
theorem dX6_sendFrom_34 : decode cX6_sendFrom 34 = .ok (.getfield 142, 3) := by decide +kernel
theorem dX6_sendFrom_37 : decode cX6_sendFrom 37 = .ok (.iload_n 1, 1) := by decide +kernel
theorem dX6_sendFrom_38 : decode cX6_sendFrom 38 = .ok (.dup2, 1) := by decide +kernel
theorem dX6_sendFrom_39 : decode cX6_sendFrom 39 = .ok (.iaload, 1) := by decide +kernel
theorem dX6_sendFrom_40 : decode cX6_sendFrom 40 = .ok (.iconst 1, 1) := by decide +kernel
theorem dX6_sendFrom_41 : decode cX6_sendFrom 41 = .ok (.iadd, 1) := by decide +kernel
theorem dX6_sendFrom_42 : decode cX6_sendFrom 42 = .ok (.iastore, 1) := by decide +kernel
theorem dX6_sendFrom_43 : decode cX6_sendFrom 43 = .ok (.return_, 1) := by decide +kernel
theorem dX6_takeOut_0 : decode cX6_takeOut 0 = .ok (.aload_n 0, 1) := by decide +kernel
theorem dX6_takeOut_1 : decode cX6_takeOut 1 = .ok (.getfield 136, 3) := by decide +kernel
theorem dX6_takeOut_4 : decode cX6_takeOut 4 = .ok (.iload_n 1, 1) := by decide +kernel
theorem dX6_takeOut_5 : decode cX6_takeOut 5 = .ok (.iaload, 1) := by decide +kernel
theorem dX6_takeOut_6 : decode cX6_takeOut 6 = .ok (.istore_n 2, 1) := by decide +kernel
theorem dX6_takeOut_7 : decode cX6_takeOut 7 = .ok (.aload_n 0, 1) := by decide +kernel
theorem dX6_takeOut_8 : decode cX6_takeOut 8 = .ok (.dup, 1) := by decide +kernel
theorem dX6_takeOut_9 : decode cX6_takeOut 9 = .ok (.getfield 162, 3) := by decide +kernel
theorem dX6_takeOut_12 : decode cX6_takeOut 12 = .ok (.iconst 1, 1) := by decide +kernel
theorem dX6_takeOut_13 : decode cX6_takeOut 13 = .ok (.isub, 1) := by decide +kernel
theorem dX6_takeOut_14 : decode cX6_takeOut 14 = .ok (.putfield 162, 3) := by decide +kernel
theorem dX6_takeOut_17 : decode cX6_takeOut 17 = .ok (.iload_n 1, 1) := by decide +kernel
theorem dX6_takeOut_18 : decode cX6_takeOut 18 = .ok (.istore_n 3, 1) := by decide +kernel
theorem dX6_takeOut_19 : decode cX6_takeOut 19 = .ok (.iload_n 3, 1) := by decide +kernel
theorem dX6_takeOut_20 : decode cX6_takeOut 20 = .ok (.aload_n 0, 1) := by decide +kernel
theorem dX6_takeOut_21 : decode cX6_takeOut 21 = .ok (.getfield 162, 3) := by decide +kernel
theorem dX6_takeOut_24 : decode cX6_takeOut 24 = .ok (.if_icmp .ge 23, 3) := by decide +kernel
theorem dX6_takeOut_27 : decode cX6_takeOut 27 = .ok (.aload_n 0, 1) := by decide +kernel
theorem dX6_takeOut_28 : decode cX6_takeOut 28 = .ok (.getfield 136, 3) := by decide +kernel
theorem dX6_takeOut_31 : decode cX6_takeOut 31 = .ok (.iload_n 3, 1) := by decide +kernel
theorem dX6_takeOut_32 : decode cX6_takeOut 32 = .ok (.aload_n 0, 1) := by decide +kernel
theorem dX6_takeOut_33 : decode cX6_takeOut 33 = .ok (.getfield 136, 3) := by decide +kernel
theorem dX6_takeOut_36 : decode cX6_takeOut 36 = .ok (.iload_n 3, 1) := by decide +kernel
theorem dX6_takeOut_37 : decode cX6_takeOut 37 = .ok (.iconst 1, 1) := by decide +kernel
theorem dX6_takeOut_38 : decode cX6_takeOut 38 = .ok (.iadd, 1) := by decide +kernel
theorem dX6_takeOut_39 : decode cX6_takeOut 39 = .ok (.iaload, 1) := by decide +kernel
theorem dX6_takeOut_40 : decode cX6_takeOut 40 = .ok (.iastore, 1) := by decide +kernel
theorem dX6_takeOut_41 : decode cX6_takeOut 41 = .ok (.iinc 3 1, 3) := by decide +kernel
theorem dX6_takeOut_44 : decode cX6_takeOut 44 = .ok (.goto (-25), 3) := by decide +kernel
theorem dX6_takeOut_47 : decode cX6_takeOut 47 = .ok (.iload_n 2, 1) := by decide +kernel
theorem dX6_takeOut_48 : decode cX6_takeOut 48 = .ok (.ireturn, 1) := by decide +kernel
theorem dX6_open_0 : decode cX6_open 0 = .ok (.iload_n 1, 1) := by decide +kernel
theorem dX6_open_1 : decode cX6_open 1 = .ok (.invokestatic 172, 3) := by decide +kernel
theorem dX6_open_4 : decode cX6_open 4 = .ok (.ifCond .ne 5, 3) := by decide +kernel
theorem dX6_open_7 : decode cX6_open 7 = .ok (.iconst (-1), 1) := by decide +kernel
theorem dX6_open_8 : decode cX6_open 8 = .ok (.ireturn, 1) := by decide +kernel
theorem dX6_open_9 : decode cX6_open 9 = .ok (.aload_n 0, 1) := by decide +kernel
theorem dX6_open_10 : decode cX6_open 10 = .ok (.dup, 1) := by decide +kernel
theorem dX6_open_11 : decode cX6_open 11 = .ok (.getfield 176, 3) := by decide +kernel
theorem dX6_open_14 : decode cX6_open 14 = .ok (.iconst 1, 1) := by decide +kernel
theorem dX6_open_15 : decode cX6_open 15 = .ok (.iadd, 1) := by decide +kernel
theorem dX6_open_16 : decode cX6_open 16 = .ok (.putfield 176, 3) := by decide +kernel
theorem dX6_open_19 : decode cX6_open 19 = .ok (.aload_n 0, 1) := by decide +kernel
theorem dX6_open_20 : decode cX6_open 20 = .ok (.getfield 7, 3) := by decide +kernel
theorem dX6_open_23 : decode cX6_open 23 = .ok (.iload_n 1, 1) := by decide +kernel
theorem dX6_open_24 : decode cX6_open 24 = .ok (.aload_n 0, 1) := by decide +kernel
theorem dX6_open_25 : decode cX6_open 25 = .ok (.getfield 176, 3) := by decide +kernel
theorem dX6_open_28 : decode cX6_open 28 = .ok (.iastore, 1) := by decide +kernel
theorem dX6_open_29 : decode cX6_open 29 = .ok (.aload_n 0, 1) := by decide +kernel
theorem dX6_open_30 : decode cX6_open 30 = .ok (.getfield 13, 3) := by decide +kernel
theorem dX6_open_33 : decode cX6_open 33 = .ok (.iload_n 1, 1) := by decide +kernel
theorem dX6_open_34 : decode cX6_open 34 = .ok (.aload_n 0, 1) := by decide +kernel
theorem dX6_open_35 : decode cX6_open 35 = .ok (.getfield 156, 3) := by decide +kernel
theorem dX6_open_38 : decode cX6_open 38 = .ok (.aload_n 0, 1) := by decide +kernel
theorem dX6_open_39 : decode cX6_open 39 = .ok (.getfield 149, 3) := by decide +kernel
theorem dX6_open_42 : decode cX6_open 42 = .ok (.iadd, 1) := by decide +kernel
theorem dX6_open_43 : decode cX6_open 43 = .ok (.iastore, 1) := by decide +kernel
theorem dX6_open_44 : decode cX6_open 44 = .ok (.aload_n 0, 1) := by decide +kernel
theorem dX6_open_45 : decode cX6_open 45 = .ok (.getfield 16, 3) := by decide +kernel
theorem dX6_open_48 : decode cX6_open 48 = .ok (.iload_n 1, 1) := by decide +kernel
theorem dX6_open_49 : decode cX6_open 49 = .ok (.iconst 0, 1) := by decide +kernel
theorem dX6_open_50 : decode cX6_open 50 = .ok (.iastore, 1) := by decide +kernel
theorem dX6_open_51 : decode cX6_open 51 = .ok (.aload_n 0, 1) := by decide +kernel
theorem dX6_open_52 : decode cX6_open 52 = .ok (.getfield 176, 3) := by decide +kernel
theorem dX6_open_55 : decode cX6_open 55 = .ok (.ireturn, 1) := by decide +kernel
theorem dX6_renew_0 : decode cX6_renew 0 = .ok (.iload_n 1, 1) := by decide +kernel
theorem dX6_renew_1 : decode cX6_renew 1 = .ok (.invokestatic 172, 3) := by decide +kernel
theorem dX6_renew_4 : decode cX6_renew 4 = .ok (.ifCond .ne 5, 3) := by decide +kernel
theorem dX6_renew_7 : decode cX6_renew 7 = .ok (.iconst (-1), 1) := by decide +kernel
theorem dX6_renew_8 : decode cX6_renew 8 = .ok (.ireturn, 1) := by decide +kernel
theorem dX6_renew_9 : decode cX6_renew 9 = .ok (.aload_n 0, 1) := by decide +kernel
theorem dX6_renew_10 : decode cX6_renew 10 = .ok (.aload_n 0, 1) := by decide +kernel
theorem dX6_renew_11 : decode cX6_renew 11 = .ok (.getfield 7, 3) := by decide +kernel
theorem dX6_renew_14 : decode cX6_renew 14 = .ok (.iload_n 1, 1) := by decide +kernel
theorem dX6_renew_15 : decode cX6_renew 15 = .ok (.iaload, 1) := by decide +kernel
theorem dX6_renew_16 : decode cX6_renew 16 = .ok (.invokevirtual 179, 3) := by decide +kernel
theorem dX6_renew_19 : decode cX6_renew 19 = .ok (.ifCond .ne 6, 3) := by decide +kernel
theorem dX6_renew_22 : decode cX6_renew 22 = .ok (.bipush (-3), 2) := by decide +kernel
theorem dX6_renew_24 : decode cX6_renew 24 = .ok (.ireturn, 1) := by decide +kernel
theorem dX6_renew_25 : decode cX6_renew 25 = .ok (.aload_n 0, 1) := by decide +kernel
theorem dX6_renew_26 : decode cX6_renew 26 = .ok (.getfield 13, 3) := by decide +kernel
theorem dX6_renew_29 : decode cX6_renew 29 = .ok (.iload_n 1, 1) := by decide +kernel
theorem dX6_renew_30 : decode cX6_renew 30 = .ok (.aload_n 0, 1) := by decide +kernel
theorem dX6_renew_31 : decode cX6_renew 31 = .ok (.getfield 156, 3) := by decide +kernel
theorem dX6_renew_34 : decode cX6_renew 34 = .ok (.aload_n 0, 1) := by decide +kernel
theorem dX6_renew_35 : decode cX6_renew 35 = .ok (.getfield 149, 3) := by decide +kernel
theorem dX6_renew_38 : decode cX6_renew 38 = .ok (.iadd, 1) := by decide +kernel
theorem dX6_renew_39 : decode cX6_renew 39 = .ok (.iastore, 1) := by decide +kernel
theorem dX6_renew_40 : decode cX6_renew 40 = .ok (.aload_n 0, 1) := by decide +kernel
theorem dX6_renew_41 : decode cX6_renew 41 = .ok (.getfield 13, 3) := by decide +kernel
theorem dX6_renew_44 : decode cX6_renew 44 = .ok (.iload_n 1, 1) := by decide +kernel
theorem dX6_renew_45 : decode cX6_renew 45 = .ok (.iaload, 1) := by decide +kernel
theorem dX6_renew_46 : decode cX6_renew 46 = .ok (.ireturn, 1) := by decide +kernel
theorem dX6_waiting_0 : decode cX6_waiting 0 = .ok (.iconst 0, 1) := by decide +kernel
theorem dX6_waiting_1 : decode cX6_waiting 1 = .ok (.istore_n 2, 1) := by decide +kernel
theorem dX6_waiting_2 : decode cX6_waiting 2 = .ok (.iconst 0, 1) := by decide +kernel
theorem dX6_waiting_3 : decode cX6_waiting 3 = .ok (.istore_n 3, 1) := by decide +kernel
theorem dX6_waiting_4 : decode cX6_waiting 4 = .ok (.iload_n 3, 1) := by decide +kernel
theorem dX6_waiting_5 : decode cX6_waiting 5 = .ok (.aload_n 0, 1) := by decide +kernel
theorem dX6_waiting_6 : decode cX6_waiting 6 = .ok (.getfield 16, 3) := by decide +kernel
theorem dX6_waiting_9 : decode cX6_waiting 9 = .ok (.iload_n 1, 1) := by decide +kernel
theorem dX6_waiting_10 : decode cX6_waiting 10 = .ok (.iaload, 1) := by decide +kernel
theorem dX6_waiting_11 : decode cX6_waiting 11 = .ok (.if_icmp .ge 31, 3) := by decide +kernel
theorem dX6_waiting_14 : decode cX6_waiting 14 = .ok (.iload_n 2, 1) := by decide +kernel
theorem dX6_waiting_15 : decode cX6_waiting 15 = .ok (.aload_n 0, 1) := by decide +kernel
theorem dX6_waiting_16 : decode cX6_waiting 16 = .ok (.getfield 22, 3) := by decide +kernel
theorem dX6_waiting_19 : decode cX6_waiting 19 = .ok (.bipush 60, 2) := by decide +kernel
theorem dX6_waiting_21 : decode cX6_waiting 21 = .ok (.iload_n 1, 1) := by decide +kernel
theorem dX6_waiting_22 : decode cX6_waiting 22 = .ok (.imul, 1) := by decide +kernel
theorem dX6_waiting_23 : decode cX6_waiting 23 = .ok (.iload_n 3, 1) := by decide +kernel
theorem dX6_waiting_24 : decode cX6_waiting 24 = .ok (.iadd, 1) := by decide +kernel
theorem dX6_waiting_25 : decode cX6_waiting 25 = .ok (.iaload, 1) := by decide +kernel
theorem dX6_waiting_26 : decode cX6_waiting 26 = .ok (.ifCond .ne 7, 3) := by decide +kernel
theorem dX6_waiting_29 : decode cX6_waiting 29 = .ok (.iconst 1, 1) := by decide +kernel
theorem dX6_waiting_30 : decode cX6_waiting 30 = .ok (.goto 4, 3) := by decide +kernel
theorem dX6_waiting_33 : decode cX6_waiting 33 = .ok (.iconst 0, 1) := by decide +kernel
theorem dX6_waiting_34 : decode cX6_waiting 34 = .ok (.iadd, 1) := by decide +kernel
theorem dX6_waiting_35 : decode cX6_waiting 35 = .ok (.istore_n 2, 1) := by decide +kernel
theorem dX6_waiting_36 : decode cX6_waiting 36 = .ok (.iinc 3 1, 3) := by decide +kernel
theorem dX6_waiting_39 : decode cX6_waiting 39 = .ok (.goto (-35), 3) := by decide +kernel
theorem dX6_waiting_42 : decode cX6_waiting 42 = .ok (.iload_n 2, 1) := by decide +kernel
theorem dX6_waiting_43 : decode cX6_waiting 43 = .ok (.ireturn, 1) := by decide +kernel
theorem dX6_request_0 : decode cX6_request 0 = .ok (.bipush 60, 2) := by decide +kernel
theorem dX6_request_2 : decode cX6_request 2 = .ok (.iload_n 1, 1) := by decide +kernel
theorem dX6_request_3 : decode cX6_request 3 = .ok (.imul, 1) := by decide +kernel
theorem dX6_request_4 : decode cX6_request 4 = .ok (.iload_n 2, 1) := by decide +kernel
theorem dX6_request_5 : decode cX6_request 5 = .ok (.iadd, 1) := by decide +kernel
theorem dX6_request_6 : decode cX6_request 6 = .ok (.iconst 1, 1) := by decide +kernel
theorem dX6_request_7 : decode cX6_request 7 = .ok (.isub, 1) := by decide +kernel
theorem dX6_request_8 : decode cX6_request 8 = .ok (.istore_n 3, 1) := by decide +kernel
theorem dX6_request_9 : decode cX6_request 9 = .ok (.aload_n 0, 1) := by decide +kernel
theorem dX6_request_10 : decode cX6_request 10 = .ok (.iconst 1, 1) := by decide +kernel
theorem dX6_request_11 : decode cX6_request 11 = .ok (.aload_n 0, 1) := by decide +kernel
theorem dX6_request_12 : decode cX6_request 12 = .ok (.getfield 19, 3) := by decide +kernel
theorem dX6_request_15 : decode cX6_request 15 = .ok (.bipush 8, 2) := by decide +kernel
theorem dX6_request_17 : decode cX6_request 17 = .ok (.iload_n 1, 1) := by decide +kernel
theorem dX6_request_18 : decode cX6_request 18 = .ok (.imul, 1) := by decide +kernel
theorem dX6_request_19 : decode cX6_request 19 = .ok (.aload_n 0, 1) := by decide +kernel
theorem dX6_request_20 : decode cX6_request 20 = .ok (.getfield 29, 3) := by decide +kernel
theorem dX6_request_23 : decode cX6_request 23 = .ok (.iload_n 3, 1) := by decide +kernel
theorem dX6_request_24 : decode cX6_request 24 = .ok (.iaload, 1) := by decide +kernel
theorem dX6_request_25 : decode cX6_request 25 = .ok (.bipush 8, 2) := by decide +kernel
theorem dX6_request_27 : decode cX6_request 27 = .ok (.irem, 1) := by decide +kernel
theorem dX6_request_28 : decode cX6_request 28 = .ok (.iadd, 1) := by decide +kernel
theorem dX6_request_29 : decode cX6_request 29 = .ok (.iaload, 1) := by decide +kernel
theorem dX6_request_30 : decode cX6_request 30 = .ok (.iload_n 1, 1) := by decide +kernel
theorem dX6_request_31 : decode cX6_request 31 = .ok (.invokevirtual 182, 3) := by decide +kernel
theorem dX6_request_34 : decode cX6_request 34 = .ok (.istore 4, 2) := by decide +kernel
theorem dX6_request_36 : decode cX6_request 36 = .ok (.aload_n 0, 1) := by decide +kernel
theorem dX6_request_37 : decode cX6_request 37 = .ok (.getfield 93, 3) := by decide +kernel
theorem dX6_request_40 : decode cX6_request 40 = .ok (.iload 4, 2) := by decide +kernel
theorem dX6_request_42 : decode cX6_request 42 = .ok (.aload_n 0, 1) := by decide +kernel
theorem dX6_request_43 : decode cX6_request 43 = .ok (.getfield 7, 3) := by decide +kernel
theorem dX6_request_46 : decode cX6_request 46 = .ok (.iload_n 1, 1) := by decide +kernel
theorem dX6_request_47 : decode cX6_request 47 = .ok (.iaload, 1) := by decide +kernel
theorem dX6_request_48 : decode cX6_request 48 = .ok (.iastore, 1) := by decide +kernel
theorem dX6_request_49 : decode cX6_request 49 = .ok (.aload_n 0, 1) := by decide +kernel
theorem dX6_request_50 : decode cX6_request 50 = .ok (.getfield 96, 3) := by decide +kernel
theorem dX6_request_53 : decode cX6_request 53 = .ok (.iload 4, 2) := by decide +kernel
theorem dX6_request_55 : decode cX6_request 55 = .ok (.iload_n 2, 1) := by decide +kernel
theorem dX6_request_56 : decode cX6_request 56 = .ok (.iastore, 1) := by decide +kernel
theorem dX6_request_57 : decode cX6_request 57 = .ok (.aload_n 0, 1) := by decide +kernel
theorem dX6_request_58 : decode cX6_request 58 = .ok (.getfield 99, 3) := by decide +kernel
theorem dX6_request_61 : decode cX6_request 61 = .ok (.iload 4, 2) := by decide +kernel
theorem dX6_request_63 : decode cX6_request 63 = .ok (.aload_n 0, 1) := by decide +kernel
theorem dX6_request_64 : decode cX6_request 64 = .ok (.iload_n 1, 1) := by decide +kernel
theorem dX6_request_65 : decode cX6_request 65 = .ok (.invokevirtual 186, 3) := by decide +kernel
theorem dX6_request_68 : decode cX6_request 68 = .ok (.iastore, 1) := by decide +kernel
theorem dX6_request_69 : decode cX6_request 69 = .ok (.aload_n 0, 1) := by decide +kernel
theorem dX6_request_70 : decode cX6_request 70 = .ok (.getfield 102, 3) := by decide +kernel
theorem dX6_request_73 : decode cX6_request 73 = .ok (.iload 4, 2) := by decide +kernel
theorem dX6_request_75 : decode cX6_request 75 = .ok (.aload_n 0, 1) := by decide +kernel
theorem dX6_request_76 : decode cX6_request 76 = .ok (.getfield 29, 3) := by decide +kernel
theorem dX6_request_79 : decode cX6_request 79 = .ok (.iload_n 3, 1) := by decide +kernel
theorem dX6_request_80 : decode cX6_request 80 = .ok (.iaload, 1) := by decide +kernel
theorem dX6_request_81 : decode cX6_request 81 = .ok (.iastore, 1) := by decide +kernel
theorem dX6_request_82 : decode cX6_request 82 = .ok (.aload_n 0, 1) := by decide +kernel
theorem dX6_request_83 : decode cX6_request 83 = .ok (.getfield 105, 3) := by decide +kernel
theorem dX6_request_86 : decode cX6_request 86 = .ok (.iload 4, 2) := by decide +kernel
theorem dX6_request_88 : decode cX6_request 88 = .ok (.aload_n 0, 1) := by decide +kernel
theorem dX6_request_89 : decode cX6_request 89 = .ok (.getfield 32, 3) := by decide +kernel
theorem dX6_request_92 : decode cX6_request 92 = .ok (.iload_n 3, 1) := by decide +kernel
theorem dX6_request_93 : decode cX6_request 93 = .ok (.iaload, 1) := by decide +kernel
theorem dX6_request_94 : decode cX6_request 94 = .ok (.iastore, 1) := by decide +kernel
theorem dX6_request_95 : decode cX6_request 95 = .ok (.aload_n 0, 1) := by decide +kernel
theorem dX6_request_96 : decode cX6_request 96 = .ok (.getfield 108, 3) := by decide +kernel
theorem dX6_request_99 : decode cX6_request 99 = .ok (.iload 4, 2) := by decide +kernel
theorem dX6_request_101 : decode cX6_request 101 = .ok (.aload_n 0, 1) := by decide +kernel
theorem dX6_request_102 : decode cX6_request 102 = .ok (.getfield 35, 3) := by decide +kernel
theorem dX6_request_105 : decode cX6_request 105 = .ok (.iload_n 3, 1) := by decide +kernel
theorem dX6_request_106 : decode cX6_request 106 = .ok (.laload, 1) := by decide +kernel
theorem dX6_request_107 : decode cX6_request 107 = .ok (.lastore, 1) := by decide +kernel
theorem dX6_request_108 : decode cX6_request 108 = .ok (.aload_n 0, 1) := by decide +kernel
theorem dX6_request_109 : decode cX6_request 109 = .ok (.getfield 111, 3) := by decide +kernel
theorem dX6_request_112 : decode cX6_request 112 = .ok (.iload 4, 2) := by decide +kernel
theorem dX6_request_114 : decode cX6_request 114 = .ok (.aload_n 0, 1) := by decide +kernel
theorem dX6_request_115 : decode cX6_request 115 = .ok (.getfield 38, 3) := by decide +kernel
theorem dX6_request_118 : decode cX6_request 118 = .ok (.iload_n 3, 1) := by decide +kernel
theorem dX6_request_119 : decode cX6_request 119 = .ok (.laload, 1) := by decide +kernel
theorem dX6_request_120 : decode cX6_request 120 = .ok (.lastore, 1) := by decide +kernel
theorem dX6_request_121 : decode cX6_request 121 = .ok (.aload_n 0, 1) := by decide +kernel
theorem dX6_request_122 : decode cX6_request 122 = .ok (.iload 4, 2) := by decide +kernel
theorem dX6_request_124 : decode cX6_request 124 = .ok (.invokevirtual 168, 3) := by decide +kernel
theorem dX6_request_127 : decode cX6_request 127 = .ok (.return_, 1) := by decide +kernel
theorem dX6_call_0 : decode cX6_call 0 = .ok (.iload_n 1, 1) := by decide +kernel
theorem dX6_call_1 : decode cX6_call 1 = .ok (.invokestatic 172, 3) := by decide +kernel
theorem dX6_call_4 : decode cX6_call 4 = .ok (.ifCond .eq 22, 3) := by decide +kernel
theorem dX6_call_7 : decode cX6_call 7 = .ok (.iload_n 2, 1) := by decide +kernel
theorem dX6_call_8 : decode cX6_call 8 = .ok (.iconst 0, 1) := by decide +kernel
theorem dX6_call_9 : decode cX6_call 9 = .ok (.bipush 31, 2) := by decide +kernel
theorem dX6_call_11 : decode cX6_call 11 = .ok (.invokestatic 152, 3) := by decide +kernel
theorem dX6_call_14 : decode cX6_call 14 = .ok (.ifCond .eq 12, 3) := by decide +kernel
theorem dX6_call_17 : decode cX6_call 17 = .ok (.iload_n 3, 1) := by decide +kernel
theorem dX6_call_18 : decode cX6_call 18 = .ok (.iconst 0, 1) := by decide +kernel
theorem dX6_call_19 : decode cX6_call 19 = .ok (.iconst 3, 1) := by decide +kernel
theorem dX6_call_20 : decode cX6_call 20 = .ok (.invokestatic 152, 3) := by decide +kernel
theorem dX6_call_23 : decode cX6_call 23 = .ok (.ifCond .ne 5, 3) := by decide +kernel
theorem dX6_call_26 : decode cX6_call 26 = .ok (.iconst (-1), 1) := by decide +kernel
theorem dX6_call_27 : decode cX6_call 27 = .ok (.ireturn, 1) := by decide +kernel
theorem dX6_call_28 : decode cX6_call 28 = .ok (.aload_n 0, 1) := by decide +kernel
theorem dX6_call_29 : decode cX6_call 29 = .ok (.getfield 7, 3) := by decide +kernel
theorem dX6_call_32 : decode cX6_call 32 = .ok (.iload_n 1, 1) := by decide +kernel
theorem dX6_call_33 : decode cX6_call 33 = .ok (.iaload, 1) := by decide +kernel
theorem dX6_call_34 : decode cX6_call 34 = .ok (.ifCond .ne 6, 3) := by decide +kernel
theorem dX6_call_37 : decode cX6_call 37 = .ok (.bipush (-3), 2) := by decide +kernel
theorem dX6_call_39 : decode cX6_call 39 = .ok (.ireturn, 1) := by decide +kernel
theorem dX6_call_40 : decode cX6_call 40 = .ok (.aload_n 0, 1) := by decide +kernel
theorem dX6_call_41 : decode cX6_call 41 = .ok (.iload_n 1, 1) := by decide +kernel
theorem dX6_call_42 : decode cX6_call 42 = .ok (.invokevirtual 190, 3) := by decide +kernel
theorem dX6_call_45 : decode cX6_call 45 = .ok (.iconst 4, 1) := by decide +kernel
theorem dX6_call_46 : decode cX6_call 46 = .ok (.if_icmp .eq 14, 3) := by decide +kernel
theorem dX6_call_49 : decode cX6_call 49 = .ok (.aload_n 0, 1) := by decide +kernel
theorem dX6_call_50 : decode cX6_call 50 = .ok (.getfield 16, 3) := by decide +kernel
theorem dX6_call_53 : decode cX6_call 53 = .ok (.iload_n 1, 1) := by decide +kernel
theorem dX6_call_54 : decode cX6_call 54 = .ok (.iaload, 1) := by decide +kernel
theorem dX6_call_55 : decode cX6_call 55 = .ok (.bipush 60, 2) := by decide +kernel
theorem dX6_call_57 : decode cX6_call 57 = .ok (.if_icmp .ne 6, 3) := by decide +kernel
theorem dX6_call_60 : decode cX6_call 60 = .ok (.bipush (-2), 2) := by decide +kernel
theorem dX6_call_62 : decode cX6_call 62 = .ok (.ireturn, 1) := by decide +kernel
theorem dX6_call_63 : decode cX6_call 63 = .ok (.bipush 60, 2) := by decide +kernel
theorem dX6_call_65 : decode cX6_call 65 = .ok (.iload_n 1, 1) := by decide +kernel
theorem dX6_call_66 : decode cX6_call 66 = .ok (.imul, 1) := by decide +kernel
theorem dX6_call_67 : decode cX6_call 67 = .ok (.aload_n 0, 1) := by decide +kernel
theorem dX6_call_68 : decode cX6_call 68 = .ok (.getfield 16, 3) := by decide +kernel
theorem dX6_call_71 : decode cX6_call 71 = .ok (.iload_n 1, 1) := by decide +kernel
theorem dX6_call_72 : decode cX6_call 72 = .ok (.iaload, 1) := by decide +kernel
theorem dX6_call_73 : decode cX6_call 73 = .ok (.iadd, 1) := by decide +kernel
theorem dX6_call_74 : decode cX6_call 74 = .ok (.istore 8, 2) := by decide +kernel
theorem dX6_call_76 : decode cX6_call 76 = .ok (.aload_n 0, 1) := by decide +kernel
theorem dX6_call_77 : decode cX6_call 77 = .ok (.getfield 16, 3) := by decide +kernel
theorem dX6_call_80 : decode cX6_call 80 = .ok (.iload_n 1, 1) := by decide +kernel
theorem dX6_call_81 : decode cX6_call 81 = .ok (.dup2, 1) := by decide +kernel
theorem dX6_call_82 : decode cX6_call 82 = .ok (.iaload, 1) := by decide +kernel
theorem dX6_call_83 : decode cX6_call 83 = .ok (.iconst 1, 1) := by decide +kernel
theorem dX6_call_84 : decode cX6_call 84 = .ok (.iadd, 1) := by decide +kernel
theorem dX6_call_85 : decode cX6_call 85 = .ok (.iastore, 1) := by decide +kernel
theorem dX6_call_86 : decode cX6_call 86 = .ok (.aload_n 0, 1) := by decide +kernel
theorem dX6_call_87 : decode cX6_call 87 = .ok (.getfield 22, 3) := by decide +kernel
theorem dX6_call_90 : decode cX6_call 90 = .ok (.iload 8, 2) := by decide +kernel
theorem dX6_call_92 : decode cX6_call 92 = .ok (.iconst 0, 1) := by decide +kernel
theorem dX6_call_93 : decode cX6_call 93 = .ok (.iastore, 1) := by decide +kernel
theorem dX6_call_94 : decode cX6_call 94 = .ok (.aload_n 0, 1) := by decide +kernel
theorem dX6_call_95 : decode cX6_call 95 = .ok (.getfield 25, 3) := by decide +kernel
theorem dX6_call_98 : decode cX6_call 98 = .ok (.iload 8, 2) := by decide +kernel
theorem dX6_call_100 : decode cX6_call 100 = .ok (.lconst 0, 1) := by decide +kernel
theorem dX6_call_101 : decode cX6_call 101 = .ok (.lastore, 1) := by decide +kernel
theorem dX6_call_102 : decode cX6_call 102 = .ok (.aload_n 0, 1) := by decide +kernel
theorem dX6_call_103 : decode cX6_call 103 = .ok (.getfield 29, 3) := by decide +kernel
theorem dX6_call_106 : decode cX6_call 106 = .ok (.iload 8, 2) := by decide +kernel
theorem dX6_call_108 : decode cX6_call 108 = .ok (.iload_n 2, 1) := by decide +kernel
theorem dX6_call_109 : decode cX6_call 109 = .ok (.iastore, 1) := by decide +kernel
theorem dX6_call_110 : decode cX6_call 110 = .ok (.aload_n 0, 1) := by decide +kernel
theorem dX6_call_111 : decode cX6_call 111 = .ok (.getfield 32, 3) := by decide +kernel
theorem dX6_call_114 : decode cX6_call 114 = .ok (.iload 8, 2) := by decide +kernel
theorem dX6_call_116 : decode cX6_call 116 = .ok (.iload_n 3, 1) := by decide +kernel
theorem dX6_call_117 : decode cX6_call 117 = .ok (.iastore, 1) := by decide +kernel
theorem dX6_call_118 : decode cX6_call 118 = .ok (.aload_n 0, 1) := by decide +kernel
theorem dX6_call_119 : decode cX6_call 119 = .ok (.getfield 35, 3) := by decide +kernel
theorem dX6_call_122 : decode cX6_call 122 = .ok (.iload 8, 2) := by decide +kernel
theorem dX6_call_124 : decode cX6_call 124 = .ok (.lload 4, 2) := by decide +kernel
theorem dX6_call_126 : decode cX6_call 126 = .ok (.lastore, 1) := by decide +kernel
theorem dX6_call_127 : decode cX6_call 127 = .ok (.aload_n 0, 1) := by decide +kernel
theorem dX6_call_128 : decode cX6_call 128 = .ok (.getfield 38, 3) := by decide +kernel
theorem dX6_call_131 : decode cX6_call 131 = .ok (.iload 8, 2) := by decide +kernel
theorem dX6_call_133 : decode cX6_call 133 = .ok (.lload 6, 2) := by decide +kernel
theorem dX6_call_135 : decode cX6_call 135 = .ok (.lastore, 1) := by decide +kernel
theorem dX6_call_136 : decode cX6_call 136 = .ok (.aload_n 0, 1) := by decide +kernel
theorem dX6_call_137 : decode cX6_call 137 = .ok (.iload_n 1, 1) := by decide +kernel
theorem dX6_call_138 : decode cX6_call 138 = .ok (.aload_n 0, 1) := by decide +kernel
theorem dX6_call_139 : decode cX6_call 139 = .ok (.getfield 16, 3) := by decide +kernel
theorem dX6_call_142 : decode cX6_call 142 = .ok (.iload_n 1, 1) := by decide +kernel
theorem dX6_call_143 : decode cX6_call 143 = .ok (.iaload, 1) := by decide +kernel
theorem dX6_call_144 : decode cX6_call 144 = .ok (.invokevirtual 193, 3) := by decide +kernel
theorem dX6_call_147 : decode cX6_call 147 = .ok (.aload_n 0, 1) := by decide +kernel
theorem dX6_call_148 : decode cX6_call 148 = .ok (.getfield 16, 3) := by decide +kernel
theorem dX6_call_151 : decode cX6_call 151 = .ok (.iload_n 1, 1) := by decide +kernel
theorem dX6_call_152 : decode cX6_call 152 = .ok (.iaload, 1) := by decide +kernel
theorem dX6_call_153 : decode cX6_call 153 = .ok (.ireturn, 1) := by decide +kernel
theorem dX6_isCall_0 : decode cX6_isCall 0 = .ok (.iload_n 1, 1) := by decide +kernel
theorem dX6_isCall_1 : decode cX6_isCall 1 = .ok (.invokestatic 172, 3) := by decide +kernel
theorem dX6_isCall_4 : decode cX6_isCall 4 = .ok (.ifCond .eq 21, 3) := by decide +kernel
theorem dX6_isCall_7 : decode cX6_isCall 7 = .ok (.iload_n 2, 1) := by decide +kernel
theorem dX6_isCall_8 : decode cX6_isCall 8 = .ok (.iconst 1, 1) := by decide +kernel
theorem dX6_isCall_9 : decode cX6_isCall 9 = .ok (.aload_n 0, 1) := by decide +kernel
theorem dX6_isCall_10 : decode cX6_isCall 10 = .ok (.getfield 16, 3) := by decide +kernel
theorem dX6_isCall_13 : decode cX6_isCall 13 = .ok (.iload_n 1, 1) := by decide +kernel
theorem dX6_isCall_14 : decode cX6_isCall 14 = .ok (.iaload, 1) := by decide +kernel
theorem dX6_isCall_15 : decode cX6_isCall 15 = .ok (.invokestatic 152, 3) := by decide +kernel
theorem dX6_isCall_18 : decode cX6_isCall 18 = .ok (.ifCond .eq 7, 3) := by decide +kernel
theorem dX6_isCall_21 : decode cX6_isCall 21 = .ok (.iconst 1, 1) := by decide +kernel
theorem dX6_isCall_22 : decode cX6_isCall 22 = .ok (.goto 4, 3) := by decide +kernel
theorem dX6_isCall_25 : decode cX6_isCall 25 = .ok (.iconst 0, 1) := by decide +kernel
theorem dX6_isCall_26 : decode cX6_isCall 26 = .ok (.ireturn, 1) := by decide +kernel
theorem dX6_retry_0 : decode cX6_retry 0 = .ok (.aload_n 0, 1) := by decide +kernel
theorem dX6_retry_1 : decode cX6_retry 1 = .ok (.iload_n 1, 1) := by decide +kernel
theorem dX6_retry_2 : decode cX6_retry 2 = .ok (.iload_n 2, 1) := by decide +kernel
theorem dX6_retry_3 : decode cX6_retry 3 = .ok (.invokevirtual 197, 3) := by decide +kernel
theorem dX6_retry_6 : decode cX6_retry 6 = .ok (.ifCond .ne 5, 3) := by decide +kernel
theorem dX6_retry_9 : decode cX6_retry 9 = .ok (.iconst (-1), 1) := by decide +kernel
theorem dX6_retry_10 : decode cX6_retry 10 = .ok (.ireturn, 1) := by decide +kernel
theorem dX6_retry_11 : decode cX6_retry 11 = .ok (.aload_n 0, 1) := by decide +kernel
theorem dX6_retry_12 : decode cX6_retry 12 = .ok (.getfield 22, 3) := by decide +kernel
theorem dX6_retry_15 : decode cX6_retry 15 = .ok (.bipush 60, 2) := by decide +kernel
theorem dX6_retry_17 : decode cX6_retry 17 = .ok (.iload_n 1, 1) := by decide +kernel
theorem dX6_retry_18 : decode cX6_retry 18 = .ok (.imul, 1) := by decide +kernel
theorem dX6_retry_19 : decode cX6_retry 19 = .ok (.iload_n 2, 1) := by decide +kernel
theorem dX6_retry_20 : decode cX6_retry 20 = .ok (.iadd, 1) := by decide +kernel
theorem dX6_retry_21 : decode cX6_retry 21 = .ok (.iconst 1, 1) := by decide +kernel
theorem dX6_retry_22 : decode cX6_retry 22 = .ok (.isub, 1) := by decide +kernel
theorem dX6_retry_23 : decode cX6_retry 23 = .ok (.iaload, 1) := by decide +kernel
theorem dX6_retry_24 : decode cX6_retry 24 = .ok (.ifCond .eq 5, 3) := by decide +kernel
theorem dX6_retry_27 : decode cX6_retry 27 = .ok (.iconst 0, 1) := by decide +kernel
theorem dX6_retry_28 : decode cX6_retry 28 = .ok (.ireturn, 1) := by decide +kernel
theorem dX6_retry_29 : decode cX6_retry 29 = .ok (.aload_n 0, 1) := by decide +kernel
theorem dX6_retry_30 : decode cX6_retry 30 = .ok (.iload_n 1, 1) := by decide +kernel
theorem dX6_retry_31 : decode cX6_retry 31 = .ok (.iload_n 2, 1) := by decide +kernel
theorem dX6_retry_32 : decode cX6_retry 32 = .ok (.invokevirtual 193, 3) := by decide +kernel
theorem dX6_retry_35 : decode cX6_retry 35 = .ok (.iconst 1, 1) := by decide +kernel
theorem dX6_retry_36 : decode cX6_retry 36 = .ok (.ireturn, 1) := by decide +kernel
theorem dX6_ack_0 : decode cX6_ack 0 = .ok (.iload_n 1, 1) := by decide +kernel
theorem dX6_ack_1 : decode cX6_ack 1 = .ok (.invokestatic 172, 3) := by decide +kernel
theorem dX6_ack_4 : decode cX6_ack 4 = .ok (.ifCond .eq 11, 3) := by decide +kernel
theorem dX6_ack_7 : decode cX6_ack 7 = .ok (.aload_n 0, 1) := by decide +kernel
theorem dX6_ack_8 : decode cX6_ack 8 = .ok (.iload_n 2, 1) := by decide +kernel
theorem dX6_ack_9 : decode cX6_ack 9 = .ok (.invokevirtual 201, 3) := by decide +kernel
theorem dX6_ack_12 : decode cX6_ack 12 = .ok (.ifCond .ne 5, 3) := by decide +kernel
theorem dX6_ack_15 : decode cX6_ack 15 = .ok (.iconst (-1), 1) := by decide +kernel
theorem dX6_ack_16 : decode cX6_ack 16 = .ok (.ireturn, 1) := by decide +kernel
theorem dX6_ack_17 : decode cX6_ack 17 = .ok (.aload_n 0, 1) := by decide +kernel
theorem dX6_ack_18 : decode cX6_ack 18 = .ok (.getfield 7, 3) := by decide +kernel
theorem dX6_ack_21 : decode cX6_ack 21 = .ok (.iload_n 1, 1) := by decide +kernel
theorem dX6_ack_22 : decode cX6_ack 22 = .ok (.iaload, 1) := by decide +kernel
theorem dX6_ack_23 : decode cX6_ack 23 = .ok (.ifCond .ne 6, 3) := by decide +kernel
theorem dX6_ack_26 : decode cX6_ack 26 = .ok (.bipush (-3), 2) := by decide +kernel
theorem dX6_ack_28 : decode cX6_ack 28 = .ok (.ireturn, 1) := by decide +kernel
theorem dX6_ack_29 : decode cX6_ack 29 = .ok (.aload_n 0, 1) := by decide +kernel
theorem dX6_ack_30 : decode cX6_ack 30 = .ok (.iconst 5, 1) := by decide +kernel
theorem dX6_ack_31 : decode cX6_ack 31 = .ok (.iload_n 2, 1) := by decide +kernel
theorem dX6_ack_32 : decode cX6_ack 32 = .ok (.iload_n 1, 1) := by decide +kernel
theorem dX6_ack_33 : decode cX6_ack 33 = .ok (.invokevirtual 182, 3) := by decide +kernel
theorem dX6_ack_36 : decode cX6_ack 36 = .ok (.istore_n 3, 1) := by decide +kernel
theorem dX6_ack_37 : decode cX6_ack 37 = .ok (.aload_n 0, 1) := by decide +kernel
theorem dX6_ack_38 : decode cX6_ack 38 = .ok (.getfield 93, 3) := by decide +kernel
theorem dX6_ack_41 : decode cX6_ack 41 = .ok (.iload_n 3, 1) := by decide +kernel
theorem dX6_ack_42 : decode cX6_ack 42 = .ok (.aload_n 0, 1) := by decide +kernel
theorem dX6_ack_43 : decode cX6_ack 43 = .ok (.getfield 7, 3) := by decide +kernel
theorem dX6_ack_46 : decode cX6_ack 46 = .ok (.iload_n 1, 1) := by decide +kernel
theorem dX6_ack_47 : decode cX6_ack 47 = .ok (.iaload, 1) := by decide +kernel
theorem dX6_ack_48 : decode cX6_ack 48 = .ok (.iastore, 1) := by decide +kernel
theorem dX6_ack_49 : decode cX6_ack 49 = .ok (.aload_n 0, 1) := by decide +kernel
theorem dX6_ack_50 : decode cX6_ack 50 = .ok (.getfield 96, 3) := by decide +kernel
theorem dX6_ack_53 : decode cX6_ack 53 = .ok (.iload_n 3, 1) := by decide +kernel
theorem dX6_ack_54 : decode cX6_ack 54 = .ok (.aload_n 0, 1) := by decide +kernel
theorem dX6_ack_55 : decode cX6_ack 55 = .ok (.iload_n 1, 1) := by decide +kernel
theorem dX6_ack_56 : decode cX6_ack 56 = .ok (.invokevirtual 186, 3) := by decide +kernel
theorem dX6_ack_59 : decode cX6_ack 59 = .ok (.iastore, 1) := by decide +kernel
theorem dX6_ack_60 : decode cX6_ack 60 = .ok (.aload_n 0, 1) := by decide +kernel
theorem dX6_ack_61 : decode cX6_ack 61 = .ok (.getfield 96, 3) := by decide +kernel
theorem dX6_ack_64 : decode cX6_ack 64 = .ok (.iload_n 3, 1) := by decide +kernel
theorem dX6_ack_65 : decode cX6_ack 65 = .ok (.iaload, 1) := by decide +kernel
theorem dX6_ack_66 : decode cX6_ack 66 = .ok (.istore 4, 2) := by decide +kernel
theorem dX6_ack_68 : decode cX6_ack 68 = .ok (.aload_n 0, 1) := by decide +kernel
theorem dX6_ack_69 : decode cX6_ack 69 = .ok (.iload_n 3, 1) := by decide +kernel
theorem dX6_ack_70 : decode cX6_ack 70 = .ok (.invokevirtual 168, 3) := by decide +kernel
theorem dX6_ack_73 : decode cX6_ack 73 = .ok (.iload 4, 2) := by decide +kernel
theorem dX6_ack_75 : decode cX6_ack 75 = .ok (.ireturn, 1) := by decide +kernel
theorem dX6_answered_0 : decode cX6_answered 0 = .ok (.aload_n 0, 1) := by decide +kernel
theorem dX6_answered_1 : decode cX6_answered 1 = .ok (.getfield 87, 3) := by decide +kernel
theorem dX6_answered_4 : decode cX6_answered 4 = .ok (.iload_n 1, 1) := by decide +kernel
theorem dX6_answered_5 : decode cX6_answered 5 = .ok (.iaload, 1) := by decide +kernel
theorem dX6_answered_6 : decode cX6_answered 6 = .ok (.istore_n 2, 1) := by decide +kernel
theorem dX6_answered_7 : decode cX6_answered 7 = .ok (.aload_n 0, 1) := by decide +kernel
theorem dX6_answered_8 : decode cX6_answered 8 = .ok (.getfield 93, 3) := by decide +kernel
theorem dX6_answered_11 : decode cX6_answered 11 = .ok (.iload_n 1, 1) := by decide +kernel
theorem dX6_answered_12 : decode cX6_answered 12 = .ok (.iaload, 1) := by decide +kernel
theorem dX6_answered_13 : decode cX6_answered 13 = .ok (.aload_n 0, 1) := by decide +kernel
theorem dX6_answered_14 : decode cX6_answered 14 = .ok (.getfield 7, 3) := by decide +kernel
theorem dX6_answered_17 : decode cX6_answered 17 = .ok (.iload_n 2, 1) := by decide +kernel
theorem dX6_answered_18 : decode cX6_answered 18 = .ok (.iaload, 1) := by decide +kernel
theorem dX6_answered_19 : decode cX6_answered 19 = .ok (.if_icmp .ne 17, 3) := by decide +kernel
theorem dX6_answered_22 : decode cX6_answered 22 = .ok (.aload_n 0, 1) := by decide +kernel
theorem dX6_answered_23 : decode cX6_answered 23 = .ok (.iload_n 2, 1) := by decide +kernel
theorem dX6_answered_24 : decode cX6_answered 24 = .ok (.aload_n 0, 1) := by decide +kernel
theorem dX6_answered_25 : decode cX6_answered 25 = .ok (.getfield 96, 3) := by decide +kernel
theorem dX6_answered_28 : decode cX6_answered 28 = .ok (.iload_n 1, 1) := by decide +kernel
theorem dX6_answered_29 : decode cX6_answered 29 = .ok (.iaload, 1) := by decide +kernel
theorem dX6_answered_30 : decode cX6_answered 30 = .ok (.invokevirtual 197, 3) := by decide +kernel
theorem dX6_answered_33 : decode cX6_answered 33 = .ok (.ifCond .ne 4, 3) := by decide +kernel
theorem dX6_answered_36 : decode cX6_answered 36 = .ok (.return_, 1) := by decide +kernel
theorem dX6_answered_37 : decode cX6_answered 37 = .ok (.bipush 60, 2) := by decide +kernel
theorem dX6_answered_39 : decode cX6_answered 39 = .ok (.iload_n 2, 1) := by decide +kernel
theorem dX6_answered_40 : decode cX6_answered 40 = .ok (.imul, 1) := by decide +kernel
theorem dX6_answered_41 : decode cX6_answered 41 = .ok (.aload_n 0, 1) := by decide +kernel
theorem dX6_answered_42 : decode cX6_answered 42 = .ok (.getfield 96, 3) := by decide +kernel
theorem dX6_answered_45 : decode cX6_answered 45 = .ok (.iload_n 1, 1) := by decide +kernel
theorem dX6_answered_46 : decode cX6_answered 46 = .ok (.iaload, 1) := by decide +kernel
theorem dX6_answered_47 : decode cX6_answered 47 = .ok (.iadd, 1) := by decide +kernel
theorem dX6_answered_48 : decode cX6_answered 48 = .ok (.iconst 1, 1) := by decide +kernel
theorem dX6_answered_49 : decode cX6_answered 49 = .ok (.isub, 1) := by decide +kernel
theorem dX6_answered_50 : decode cX6_answered 50 = .ok (.istore_n 3, 1) := by decide +kernel
theorem dX6_answered_51 : decode cX6_answered 51 = .ok (.aload_n 0, 1) := by decide +kernel
theorem dX6_answered_52 : decode cX6_answered 52 = .ok (.getfield 22, 3) := by decide +kernel
theorem dX6_answered_55 : decode cX6_answered 55 = .ok (.iload_n 3, 1) := by decide +kernel
theorem dX6_answered_56 : decode cX6_answered 56 = .ok (.iaload, 1) := by decide +kernel
theorem dX6_answered_57 : decode cX6_answered 57 = .ok (.ifCond .eq 4, 3) := by decide +kernel
theorem dX6_answered_60 : decode cX6_answered 60 = .ok (.return_, 1) := by decide +kernel
theorem dX6_answered_61 : decode cX6_answered 61 = .ok (.aload_n 0, 1) := by decide +kernel
theorem dX6_answered_62 : decode cX6_answered 62 = .ok (.getfield 99, 3) := by decide +kernel
theorem dX6_answered_65 : decode cX6_answered 65 = .ok (.iload_n 1, 1) := by decide +kernel
theorem dX6_answered_66 : decode cX6_answered 66 = .ok (.iaload, 1) := by decide +kernel
theorem dX6_answered_67 : decode cX6_answered 67 = .ok (.ifCond .ne 35, 3) := by decide +kernel
theorem dX6_answered_70 : decode cX6_answered 70 = .ok (.aload_n 0, 1) := by decide +kernel
theorem dX6_answered_71 : decode cX6_answered 71 = .ok (.getfield 22, 3) := by decide +kernel
theorem dX6_answered_74 : decode cX6_answered 74 = .ok (.iload_n 3, 1) := by decide +kernel
theorem dX6_answered_75 : decode cX6_answered 75 = .ok (.iconst 1, 1) := by decide +kernel
theorem dX6_answered_76 : decode cX6_answered 76 = .ok (.iastore, 1) := by decide +kernel
theorem dX6_answered_77 : decode cX6_answered 77 = .ok (.aload_n 0, 1) := by decide +kernel
theorem dX6_answered_78 : decode cX6_answered 78 = .ok (.getfield 25, 3) := by decide +kernel
theorem dX6_answered_81 : decode cX6_answered 81 = .ok (.iload_n 3, 1) := by decide +kernel
theorem dX6_answered_82 : decode cX6_answered 82 = .ok (.aload_n 0, 1) := by decide +kernel
theorem dX6_answered_83 : decode cX6_answered 83 = .ok (.getfield 108, 3) := by decide +kernel
theorem dX6_answered_86 : decode cX6_answered 86 = .ok (.iload_n 1, 1) := by decide +kernel
theorem dX6_answered_87 : decode cX6_answered 87 = .ok (.laload, 1) := by decide +kernel
theorem dX6_answered_88 : decode cX6_answered 88 = .ok (.lastore, 1) := by decide +kernel
theorem dX6_answered_89 : decode cX6_answered 89 = .ok (.aload_n 0, 1) := by decide +kernel
theorem dX6_answered_90 : decode cX6_answered 90 = .ok (.dup, 1) := by decide +kernel
theorem dX6_answered_91 : decode cX6_answered 91 = .ok (.getfield 204, 3) := by decide +kernel
theorem dX6_answered_94 : decode cX6_answered 94 = .ok (.iconst 1, 1) := by decide +kernel
theorem dX6_answered_95 : decode cX6_answered 95 = .ok (.iadd, 1) := by decide +kernel
theorem dX6_answered_96 : decode cX6_answered 96 = .ok (.putfield 204, 3) := by decide +kernel
theorem dX6_answered_99 : decode cX6_answered 99 = .ok (.goto 100, 3) := by decide +kernel
theorem dX6_answered_102 : decode cX6_answered 102 = .ok (.aload_n 0, 1) := by decide +kernel
theorem dX6_answered_103 : decode cX6_answered 103 = .ok (.getfield 99, 3) := by decide +kernel
theorem dX6_answered_106 : decode cX6_answered 106 = .ok (.iload_n 1, 1) := by decide +kernel
theorem dX6_answered_107 : decode cX6_answered 107 = .ok (.iaload, 1) := by decide +kernel
theorem dX6_answered_108 : decode cX6_answered 108 = .ok (.iconst 1, 1) := by decide +kernel
theorem dX6_answered_109 : decode cX6_answered 109 = .ok (.if_icmp .ne 32, 3) := by decide +kernel
theorem dX6_answered_112 : decode cX6_answered 112 = .ok (.aload_n 0, 1) := by decide +kernel
theorem dX6_answered_113 : decode cX6_answered 113 = .ok (.getfield 19, 3) := by decide +kernel
theorem dX6_answered_116 : decode cX6_answered 116 = .ok (.bipush 8, 2) := by decide +kernel
theorem dX6_answered_118 : decode cX6_answered 118 = .ok (.iload_n 2, 1) := by decide +kernel
theorem dX6_answered_119 : decode cX6_answered 119 = .ok (.imul, 1) := by decide +kernel
theorem dX6_answered_120 : decode cX6_answered 120 = .ok (.aload_n 0, 1) := by decide +kernel
theorem dX6_answered_121 : decode cX6_answered 121 = .ok (.getfield 29, 3) := by decide +kernel
theorem dX6_answered_124 : decode cX6_answered 124 = .ok (.iload_n 3, 1) := by decide +kernel
theorem dX6_answered_125 : decode cX6_answered 125 = .ok (.iaload, 1) := by decide +kernel
theorem dX6_answered_126 : decode cX6_answered 126 = .ok (.bipush 8, 2) := by decide +kernel
theorem dX6_answered_128 : decode cX6_answered 128 = .ok (.irem, 1) := by decide +kernel
theorem dX6_answered_129 : decode cX6_answered 129 = .ok (.iadd, 1) := by decide +kernel
theorem dX6_answered_130 : decode cX6_answered 130 = .ok (.aload_n 0, 1) := by decide +kernel
theorem dX6_answered_131 : decode cX6_answered 131 = .ok (.getfield 108, 3) := by decide +kernel
theorem dX6_answered_134 : decode cX6_answered 134 = .ok (.iload_n 1, 1) := by decide +kernel
theorem dX6_answered_135 : decode cX6_answered 135 = .ok (.laload, 1) := by decide +kernel
theorem dX6_answered_136 : decode cX6_answered 136 = .ok (.l2i, 1) := by decide +kernel
theorem dX6_answered_137 : decode cX6_answered 137 = .ok (.iastore, 1) := by decide +kernel
theorem dX6_answered_138 : decode cX6_answered 138 = .ok (.goto 61, 3) := by decide +kernel
theorem dX6_answered_141 : decode cX6_answered 141 = .ok (.aload_n 0, 1) := by decide +kernel
theorem dX6_answered_142 : decode cX6_answered 142 = .ok (.getfield 99, 3) := by decide +kernel
theorem dX6_answered_145 : decode cX6_answered 145 = .ok (.iload_n 1, 1) := by decide +kernel
theorem dX6_answered_146 : decode cX6_answered 146 = .ok (.iaload, 1) := by decide +kernel
theorem dX6_answered_147 : decode cX6_answered 147 = .ok (.iconst 3, 1) := by decide +kernel
theorem dX6_answered_148 : decode cX6_answered 148 = .ok (.if_icmp .ne 51, 3) := by decide +kernel
theorem dX6_answered_151 : decode cX6_answered 151 = .ok (.iconst 0, 1) := by decide +kernel
theorem dX6_answered_152 : decode cX6_answered 152 = .ok (.istore 4, 2) := by decide +kernel
theorem dX6_answered_154 : decode cX6_answered 154 = .ok (.iload 4, 2) := by decide +kernel
theorem dX6_answered_156 : decode cX6_answered 156 = .ok (.aload_n 0, 1) := by decide +kernel
theorem dX6_answered_157 : decode cX6_answered 157 = .ok (.getfield 16, 3) := by decide +kernel
theorem dX6_answered_160 : decode cX6_answered 160 = .ok (.iload_n 2, 1) := by decide +kernel
theorem dX6_answered_161 : decode cX6_answered 161 = .ok (.iaload, 1) := by decide +kernel
theorem dX6_answered_162 : decode cX6_answered 162 = .ok (.if_icmp .ge 37, 3) := by decide +kernel
theorem dX6_answered_165 : decode cX6_answered 165 = .ok (.aload_n 0, 1) := by decide +kernel
theorem dX6_answered_166 : decode cX6_answered 166 = .ok (.getfield 22, 3) := by decide +kernel
theorem dX6_answered_169 : decode cX6_answered 169 = .ok (.bipush 60, 2) := by decide +kernel
theorem dX6_answered_171 : decode cX6_answered 171 = .ok (.iload_n 2, 1) := by decide +kernel
theorem dX6_answered_172 : decode cX6_answered 172 = .ok (.imul, 1) := by decide +kernel
theorem dX6_answered_173 : decode cX6_answered 173 = .ok (.iload 4, 2) := by decide +kernel
theorem dX6_answered_175 : decode cX6_answered 175 = .ok (.iadd, 1) := by decide +kernel
theorem dX6_answered_176 : decode cX6_answered 176 = .ok (.iaload, 1) := by decide +kernel
theorem dX6_answered_177 : decode cX6_answered 177 = .ok (.ifCond .ne 16, 3) := by decide +kernel
theorem dX6_answered_180 : decode cX6_answered 180 = .ok (.aload_n 0, 1) := by decide +kernel
theorem dX6_answered_181 : decode cX6_answered 181 = .ok (.getfield 22, 3) := by decide +kernel
theorem dX6_answered_184 : decode cX6_answered 184 = .ok (.bipush 60, 2) := by decide +kernel
theorem dX6_answered_186 : decode cX6_answered 186 = .ok (.iload_n 2, 1) := by decide +kernel
theorem dX6_answered_187 : decode cX6_answered 187 = .ok (.imul, 1) := by decide +kernel
theorem dX6_answered_188 : decode cX6_answered 188 = .ok (.iload 4, 2) := by decide +kernel
theorem dX6_answered_190 : decode cX6_answered 190 = .ok (.iadd, 1) := by decide +kernel
theorem dX6_answered_191 : decode cX6_answered 191 = .ok (.iconst 2, 1) := by decide +kernel
theorem dX6_answered_192 : decode cX6_answered 192 = .ok (.iastore, 1) := by decide +kernel
theorem dX6_answered_193 : decode cX6_answered 193 = .ok (.iinc 4 1, 3) := by decide +kernel
theorem dX6_answered_196 : decode cX6_answered 196 = .ok (.goto (-42), 3) := by decide +kernel
theorem dX6_answered_199 : decode cX6_answered 199 = .ok (.return_, 1) := by decide +kernel
theorem dX6_forget_0 : decode cX6_forget 0 = .ok (.aload_n 0, 1) := by decide +kernel
theorem dX6_forget_1 : decode cX6_forget 1 = .ok (.getfield 53, 3) := by decide +kernel
theorem dX6_forget_4 : decode cX6_forget 4 = .ok (.iload_n 1, 1) := by decide +kernel
theorem dX6_forget_5 : decode cX6_forget 5 = .ok (.dup2, 1) := by decide +kernel
theorem dX6_forget_6 : decode cX6_forget 6 = .ok (.iaload, 1) := by decide +kernel
theorem dX6_forget_7 : decode cX6_forget 7 = .ok (.iconst 1, 1) := by decide +kernel
theorem dX6_forget_8 : decode cX6_forget 8 = .ok (.isub, 1) := by decide +kernel
theorem dX6_forget_9 : decode cX6_forget 9 = .ok (.iastore, 1) := by decide +kernel
theorem dX6_forget_10 : decode cX6_forget 10 = .ok (.iload_n 2, 1) := by decide +kernel
theorem dX6_forget_11 : decode cX6_forget 11 = .ok (.istore_n 3, 1) := by decide +kernel
theorem dX6_forget_12 : decode cX6_forget 12 = .ok (.iload_n 3, 1) := by decide +kernel
theorem dX6_forget_13 : decode cX6_forget 13 = .ok (.aload_n 0, 1) := by decide +kernel
theorem dX6_forget_14 : decode cX6_forget 14 = .ok (.getfield 53, 3) := by decide +kernel
theorem dX6_forget_17 : decode cX6_forget 17 = .ok (.iload_n 1, 1) := by decide +kernel
theorem dX6_forget_18 : decode cX6_forget 18 = .ok (.iaload, 1) := by decide +kernel
theorem dX6_forget_19 : decode cX6_forget 19 = .ok (.if_icmp .ge 81, 3) := by decide +kernel
theorem dX6_forget_22 : decode cX6_forget 22 = .ok (.bipush 12, 2) := by decide +kernel
theorem dX6_forget_24 : decode cX6_forget 24 = .ok (.iload_n 1, 1) := by decide +kernel
theorem dX6_forget_25 : decode cX6_forget 25 = .ok (.imul, 1) := by decide +kernel
theorem dX6_forget_26 : decode cX6_forget 26 = .ok (.iload_n 3, 1) := by decide +kernel
theorem dX6_forget_27 : decode cX6_forget 27 = .ok (.iadd, 1) := by decide +kernel
theorem dX6_forget_28 : decode cX6_forget 28 = .ok (.istore 4, 2) := by decide +kernel
theorem dX6_forget_30 : decode cX6_forget 30 = .ok (.aload_n 0, 1) := by decide +kernel
theorem dX6_forget_31 : decode cX6_forget 31 = .ok (.getfield 56, 3) := by decide +kernel
theorem dX6_forget_34 : decode cX6_forget 34 = .ok (.iload 4, 2) := by decide +kernel
theorem dX6_forget_36 : decode cX6_forget 36 = .ok (.aload_n 0, 1) := by decide +kernel
theorem dX6_forget_37 : decode cX6_forget 37 = .ok (.getfield 56, 3) := by decide +kernel
theorem dX6_forget_40 : decode cX6_forget 40 = .ok (.iload 4, 2) := by decide +kernel
theorem dX6_forget_42 : decode cX6_forget 42 = .ok (.iconst 1, 1) := by decide +kernel
theorem dX6_forget_43 : decode cX6_forget 43 = .ok (.iadd, 1) := by decide +kernel
theorem dX6_forget_44 : decode cX6_forget 44 = .ok (.iaload, 1) := by decide +kernel
theorem dX6_forget_45 : decode cX6_forget 45 = .ok (.iastore, 1) := by decide +kernel
theorem dX6_forget_46 : decode cX6_forget 46 = .ok (.aload_n 0, 1) := by decide +kernel
theorem dX6_forget_47 : decode cX6_forget 47 = .ok (.getfield 59, 3) := by decide +kernel
theorem dX6_forget_50 : decode cX6_forget 50 = .ok (.iload 4, 2) := by decide +kernel
theorem dX6_forget_52 : decode cX6_forget 52 = .ok (.aload_n 0, 1) := by decide +kernel
theorem dX6_forget_53 : decode cX6_forget 53 = .ok (.getfield 59, 3) := by decide +kernel
theorem dX6_forget_56 : decode cX6_forget 56 = .ok (.iload 4, 2) := by decide +kernel
theorem dX6_forget_58 : decode cX6_forget 58 = .ok (.iconst 1, 1) := by decide +kernel
theorem dX6_forget_59 : decode cX6_forget 59 = .ok (.iadd, 1) := by decide +kernel
theorem dX6_forget_60 : decode cX6_forget 60 = .ok (.iaload, 1) := by decide +kernel
theorem dX6_forget_61 : decode cX6_forget 61 = .ok (.iastore, 1) := by decide +kernel
theorem dX6_forget_62 : decode cX6_forget 62 = .ok (.aload_n 0, 1) := by decide +kernel
theorem dX6_forget_63 : decode cX6_forget 63 = .ok (.getfield 62, 3) := by decide +kernel
theorem dX6_forget_66 : decode cX6_forget 66 = .ok (.iload 4, 2) := by decide +kernel
theorem dX6_forget_68 : decode cX6_forget 68 = .ok (.aload_n 0, 1) := by decide +kernel
theorem dX6_forget_69 : decode cX6_forget 69 = .ok (.getfield 62, 3) := by decide +kernel
theorem dX6_forget_72 : decode cX6_forget 72 = .ok (.iload 4, 2) := by decide +kernel
theorem dX6_forget_74 : decode cX6_forget 74 = .ok (.iconst 1, 1) := by decide +kernel
theorem dX6_forget_75 : decode cX6_forget 75 = .ok (.iadd, 1) := by decide +kernel
theorem dX6_forget_76 : decode cX6_forget 76 = .ok (.iaload, 1) := by decide +kernel
theorem dX6_forget_77 : decode cX6_forget 77 = .ok (.iastore, 1) := by decide +kernel
theorem dX6_forget_78 : decode cX6_forget 78 = .ok (.aload_n 0, 1) := by decide +kernel
theorem dX6_forget_79 : decode cX6_forget 79 = .ok (.getfield 65, 3) := by decide +kernel
theorem dX6_forget_82 : decode cX6_forget 82 = .ok (.iload 4, 2) := by decide +kernel
theorem dX6_forget_84 : decode cX6_forget 84 = .ok (.aload_n 0, 1) := by decide +kernel
theorem dX6_forget_85 : decode cX6_forget 85 = .ok (.getfield 65, 3) := by decide +kernel
theorem dX6_forget_88 : decode cX6_forget 88 = .ok (.iload 4, 2) := by decide +kernel
theorem dX6_forget_90 : decode cX6_forget 90 = .ok (.iconst 1, 1) := by decide +kernel
theorem dX6_forget_91 : decode cX6_forget 91 = .ok (.iadd, 1) := by decide +kernel
theorem dX6_forget_92 : decode cX6_forget 92 = .ok (.laload, 1) := by decide +kernel
theorem dX6_forget_93 : decode cX6_forget 93 = .ok (.lastore, 1) := by decide +kernel
theorem dX6_forget_94 : decode cX6_forget 94 = .ok (.iinc 3 1, 3) := by decide +kernel
theorem dX6_forget_97 : decode cX6_forget 97 = .ok (.goto (-85), 3) := by decide +kernel
theorem dX6_forget_100 : decode cX6_forget 100 = .ok (.return_, 1) := by decide +kernel
theorem dX6_know_0 : decode cX6_know 0 = .ok (.bipush 6, 2) := by decide +kernel
theorem dX6_know_2 : decode cX6_know 2 = .ok (.iload_n 2, 1) := by decide +kernel
theorem dX6_know_3 : decode cX6_know 3 = .ok (.imul, 1) := by decide +kernel
theorem dX6_know_4 : decode cX6_know 4 = .ok (.iload_n 3, 1) := by decide +kernel
theorem dX6_know_5 : decode cX6_know 5 = .ok (.iadd, 1) := by decide +kernel
theorem dX6_know_6 : decode cX6_know 6 = .ok (.istore 6, 2) := by decide +kernel
theorem dX6_know_8 : decode cX6_know 8 = .ok (.iload 4, 2) := by decide +kernel
theorem dX6_know_10 : decode cX6_know 10 = .ok (.aload_n 0, 1) := by decide +kernel
theorem dX6_know_11 : decode cX6_know 11 = .ok (.getfield 68, 3) := by decide +kernel
theorem dX6_know_14 : decode cX6_know 14 = .ok (.iload 6, 2) := by decide +kernel
theorem dX6_know_16 : decode cX6_know 16 = .ok (.iaload, 1) := by decide +kernel
theorem dX6_know_17 : decode cX6_know 17 = .ok (.if_icmp .le 7, 3) := by decide +kernel
theorem dX6_know_20 : decode cX6_know 20 = .ok (.iconst 1, 1) := by decide +kernel
theorem dX6_know_21 : decode cX6_know 21 = .ok (.goto 4, 3) := by decide +kernel
theorem dX6_know_24 : decode cX6_know 24 = .ok (.iconst 0, 1) := by decide +kernel
theorem dX6_know_25 : decode cX6_know 25 = .ok (.istore 7, 2) := by decide +kernel
theorem dX6_know_27 : decode cX6_know 27 = .ok (.iload 7, 2) := by decide +kernel
theorem dX6_know_29 : decode cX6_know 29 = .ok (.ifCond .ne 28, 3) := by decide +kernel
theorem dX6_know_32 : decode cX6_know 32 = .ok (.iload 4, 2) := by decide +kernel
theorem dX6_know_34 : decode cX6_know 34 = .ok (.aload_n 0, 1) := by decide +kernel
theorem dX6_know_35 : decode cX6_know 35 = .ok (.getfield 68, 3) := by decide +kernel
theorem dX6_know_38 : decode cX6_know 38 = .ok (.iload 6, 2) := by decide +kernel
theorem dX6_know_40 : decode cX6_know 40 = .ok (.iaload, 1) := by decide +kernel
theorem dX6_know_41 : decode cX6_know 41 = .ok (.if_icmp .lt 15, 3) := by decide +kernel
theorem dX6_know_44 : decode cX6_know 44 = .ok (.iload 5, 2) := by decide +kernel
theorem dX6_know_46 : decode cX6_know 46 = .ok (.aload_n 0, 1) := by decide +kernel
theorem dX6_know_47 : decode cX6_know 47 = .ok (.getfield 71, 3) := by decide +kernel
theorem dX6_know_50 : decode cX6_know 50 = .ok (.iload 6, 2) := by decide +kernel
theorem dX6_know_52 : decode cX6_know 52 = .ok (.iaload, 1) := by decide +kernel
theorem dX6_know_53 : decode cX6_know 53 = .ok (.if_icmp .gt 4, 3) := by decide +kernel
theorem dX6_know_56 : decode cX6_know 56 = .ok (.return_, 1) := by decide +kernel
theorem dX6_know_57 : decode cX6_know 57 = .ok (.aload_n 0, 1) := by decide +kernel
theorem dX6_know_58 : decode cX6_know 58 = .ok (.getfield 68, 3) := by decide +kernel
theorem dX6_know_61 : decode cX6_know 61 = .ok (.iload 6, 2) := by decide +kernel
theorem dX6_know_63 : decode cX6_know 63 = .ok (.iload 4, 2) := by decide +kernel
theorem dX6_know_65 : decode cX6_know 65 = .ok (.iastore, 1) := by decide +kernel
theorem dX6_know_66 : decode cX6_know 66 = .ok (.aload_n 0, 1) := by decide +kernel
theorem dX6_know_67 : decode cX6_know 67 = .ok (.getfield 71, 3) := by decide +kernel
theorem dX6_know_70 : decode cX6_know 70 = .ok (.iload 6, 2) := by decide +kernel
theorem dX6_know_72 : decode cX6_know 72 = .ok (.iload 5, 2) := by decide +kernel
theorem dX6_know_74 : decode cX6_know 74 = .ok (.iastore, 1) := by decide +kernel
theorem dX6_know_75 : decode cX6_know 75 = .ok (.aload_n 0, 1) := by decide +kernel
theorem dX6_know_76 : decode cX6_know 76 = .ok (.getfield 78, 3) := by decide +kernel
theorem dX6_know_79 : decode cX6_know 79 = .ok (.iload_n 1, 1) := by decide +kernel
theorem dX6_know_80 : decode cX6_know 80 = .ok (.iconst 1, 1) := by decide +kernel
theorem dX6_know_81 : decode cX6_know 81 = .ok (.bastore, 1) := by decide +kernel
theorem dX6_know_82 : decode cX6_know 82 = .ok (.aload_n 0, 1) := by decide +kernel
theorem dX6_know_83 : decode cX6_know 83 = .ok (.getfield 53, 3) := by decide +kernel
theorem dX6_know_86 : decode cX6_know 86 = .ok (.iload_n 2, 1) := by decide +kernel
theorem dX6_know_87 : decode cX6_know 87 = .ok (.iaload, 1) := by decide +kernel
theorem dX6_know_88 : decode cX6_know 88 = .ok (.iconst 1, 1) := by decide +kernel
theorem dX6_know_89 : decode cX6_know 89 = .ok (.isub, 1) := by decide +kernel
theorem dX6_know_90 : decode cX6_know 90 = .ok (.istore 8, 2) := by decide +kernel
theorem dX6_know_92 : decode cX6_know 92 = .ok (.iload 8, 2) := by decide +kernel
theorem dX6_know_94 : decode cX6_know 94 = .ok (.ifCond .lt 53, 3) := by decide +kernel
theorem dX6_know_97 : decode cX6_know 97 = .ok (.bipush 12, 2) := by decide +kernel
theorem dX6_know_99 : decode cX6_know 99 = .ok (.iload_n 2, 1) := by decide +kernel
theorem dX6_know_100 : decode cX6_know 100 = .ok (.imul, 1) := by decide +kernel
theorem dX6_know_101 : decode cX6_know 101 = .ok (.iload 8, 2) := by decide +kernel
theorem dX6_know_103 : decode cX6_know 103 = .ok (.iadd, 1) := by decide +kernel
theorem dX6_know_104 : decode cX6_know 104 = .ok (.istore 9, 2) := by decide +kernel
theorem dX6_know_106 : decode cX6_know 106 = .ok (.aload_n 0, 1) := by decide +kernel
theorem dX6_know_107 : decode cX6_know 107 = .ok (.getfield 56, 3) := by decide +kernel
theorem dX6_know_110 : decode cX6_know 110 = .ok (.iload 9, 2) := by decide +kernel
theorem dX6_know_112 : decode cX6_know 112 = .ok (.iaload, 1) := by decide +kernel
theorem dX6_know_113 : decode cX6_know 113 = .ok (.iload_n 3, 1) := by decide +kernel
theorem dX6_know_114 : decode cX6_know 114 = .ok (.if_icmp .ne 27, 3) := by decide +kernel
theorem dX6_know_117 : decode cX6_know 117 = .ok (.iload 7, 2) := by decide +kernel
theorem dX6_know_119 : decode cX6_know 119 = .ok (.ifCond .ne 15, 3) := by decide +kernel
theorem dX6_know_122 : decode cX6_know 122 = .ok (.aload_n 0, 1) := by decide +kernel
theorem dX6_know_123 : decode cX6_know 123 = .ok (.getfield 62, 3) := by decide +kernel
theorem dX6_know_126 : decode cX6_know 126 = .ok (.iload 9, 2) := by decide +kernel
theorem dX6_know_128 : decode cX6_know 128 = .ok (.iaload, 1) := by decide +kernel
theorem dX6_know_129 : decode cX6_know 129 = .ok (.iload 5, 2) := by decide +kernel
theorem dX6_know_131 : decode cX6_know 131 = .ok (.if_icmp .ge 10, 3) := by decide +kernel
theorem dX6_know_134 : decode cX6_know 134 = .ok (.aload_n 0, 1) := by decide +kernel
theorem dX6_know_135 : decode cX6_know 135 = .ok (.iload_n 2, 1) := by decide +kernel
theorem dX6_know_136 : decode cX6_know 136 = .ok (.iload 8, 2) := by decide +kernel
theorem dX6_know_138 : decode cX6_know 138 = .ok (.invokevirtual 207, 3) := by decide +kernel
theorem dX6_know_141 : decode cX6_know 141 = .ok (.iinc 8 (-1), 3) := by decide +kernel
theorem dX6_know_144 : decode cX6_know 144 = .ok (.goto (-52), 3) := by decide +kernel
theorem dX6_know_147 : decode cX6_know 147 = .ok (.return_, 1) := by decide +kernel
theorem dX6_answer_0 : decode cX6_answer 0 = .ok (.aload_n 0, 1) := by decide +kernel
theorem dX6_answer_1 : decode cX6_answer 1 = .ok (.iconst 2, 1) := by decide +kernel
theorem dX6_answer_2 : decode cX6_answer 2 = .ok (.aload_n 0, 1) := by decide +kernel
theorem dX6_answer_3 : decode cX6_answer 3 = .ok (.getfield 90, 3) := by decide +kernel
theorem dX6_answer_6 : decode cX6_answer 6 = .ok (.iload_n 2, 1) := by decide +kernel
theorem dX6_answer_7 : decode cX6_answer 7 = .ok (.iaload, 1) := by decide +kernel
theorem dX6_answer_8 : decode cX6_answer 8 = .ok (.iload_n 1, 1) := by decide +kernel
theorem dX6_answer_9 : decode cX6_answer 9 = .ok (.invokevirtual 182, 3) := by decide +kernel
theorem dX6_answer_12 : decode cX6_answer 12 = .ok (.istore 6, 2) := by decide +kernel
theorem dX6_answer_14 : decode cX6_answer 14 = .ok (.aload_n 0, 1) := by decide +kernel
theorem dX6_answer_15 : decode cX6_answer 15 = .ok (.getfield 93, 3) := by decide +kernel
theorem dX6_answer_18 : decode cX6_answer 18 = .ok (.iload 6, 2) := by decide +kernel
theorem dX6_answer_20 : decode cX6_answer 20 = .ok (.aload_n 0, 1) := by decide +kernel
theorem dX6_answer_21 : decode cX6_answer 21 = .ok (.getfield 93, 3) := by decide +kernel
theorem dX6_answer_24 : decode cX6_answer 24 = .ok (.iload_n 2, 1) := by decide +kernel
theorem dX6_answer_25 : decode cX6_answer 25 = .ok (.iaload, 1) := by decide +kernel
theorem dX6_answer_26 : decode cX6_answer 26 = .ok (.iastore, 1) := by decide +kernel
theorem dX6_answer_27 : decode cX6_answer 27 = .ok (.aload_n 0, 1) := by decide +kernel
theorem dX6_answer_28 : decode cX6_answer 28 = .ok (.getfield 96, 3) := by decide +kernel
theorem dX6_answer_31 : decode cX6_answer 31 = .ok (.iload 6, 2) := by decide +kernel
theorem dX6_answer_33 : decode cX6_answer 33 = .ok (.aload_n 0, 1) := by decide +kernel
theorem dX6_answer_34 : decode cX6_answer 34 = .ok (.getfield 96, 3) := by decide +kernel
theorem dX6_answer_37 : decode cX6_answer 37 = .ok (.iload_n 2, 1) := by decide +kernel
theorem dX6_answer_38 : decode cX6_answer 38 = .ok (.iaload, 1) := by decide +kernel
theorem dX6_answer_39 : decode cX6_answer 39 = .ok (.iastore, 1) := by decide +kernel
theorem dX6_answer_40 : decode cX6_answer 40 = .ok (.aload_n 0, 1) := by decide +kernel
theorem dX6_answer_41 : decode cX6_answer 41 = .ok (.getfield 99, 3) := by decide +kernel
theorem dX6_answer_44 : decode cX6_answer 44 = .ok (.iload 6, 2) := by decide +kernel
theorem dX6_answer_46 : decode cX6_answer 46 = .ok (.iload_n 3, 1) := by decide +kernel
theorem dX6_answer_47 : decode cX6_answer 47 = .ok (.iastore, 1) := by decide +kernel
theorem dX6_answer_48 : decode cX6_answer 48 = .ok (.aload_n 0, 1) := by decide +kernel
theorem dX6_answer_49 : decode cX6_answer 49 = .ok (.getfield 108, 3) := by decide +kernel
theorem dX6_answer_52 : decode cX6_answer 52 = .ok (.iload 6, 2) := by decide +kernel
theorem dX6_answer_54 : decode cX6_answer 54 = .ok (.lload 4, 2) := by decide +kernel
theorem dX6_answer_56 : decode cX6_answer 56 = .ok (.lastore, 1) := by decide +kernel
theorem dX6_answer_57 : decode cX6_answer 57 = .ok (.aload_n 0, 1) := by decide +kernel
theorem dX6_answer_58 : decode cX6_answer 58 = .ok (.iload_n 1, 1) := by decide +kernel
theorem dX6_answer_59 : decode cX6_answer 59 = .ok (.iload 6, 2) := by decide +kernel
theorem dX6_answer_61 : decode cX6_answer 61 = .ok (.invokevirtual 210, 3) := by decide +kernel
theorem dX6_answer_64 : decode cX6_answer 64 = .ok (.return_, 1) := by decide +kernel
theorem dX6_asked_0 : decode cX6_asked 0 = .ok (.aload_n 0, 1) := by decide +kernel
theorem dX6_asked_1 : decode cX6_asked 1 = .ok (.getfield 87, 3) := by decide +kernel
theorem dX6_asked_4 : decode cX6_asked 4 = .ok (.iload_n 1, 1) := by decide +kernel
theorem dX6_asked_5 : decode cX6_asked 5 = .ok (.iaload, 1) := by decide +kernel
theorem dX6_asked_6 : decode cX6_asked 6 = .ok (.istore_n 2, 1) := by decide +kernel
theorem dX6_asked_7 : decode cX6_asked 7 = .ok (.aload_n 0, 1) := by decide +kernel
theorem dX6_asked_8 : decode cX6_asked 8 = .ok (.getfield 90, 3) := by decide +kernel
theorem dX6_asked_11 : decode cX6_asked 11 = .ok (.iload_n 1, 1) := by decide +kernel
theorem dX6_asked_12 : decode cX6_asked 12 = .ok (.iaload, 1) := by decide +kernel
theorem dX6_asked_13 : decode cX6_asked 13 = .ok (.istore_n 3, 1) := by decide +kernel
theorem dX6_asked_14 : decode cX6_asked 14 = .ok (.bipush 16, 2) := by decide +kernel
theorem dX6_asked_16 : decode cX6_asked 16 = .ok (.iload_n 2, 1) := by decide +kernel
theorem dX6_asked_17 : decode cX6_asked 17 = .ok (.imul, 1) := by decide +kernel
theorem dX6_asked_18 : decode cX6_asked 18 = .ok (.aload_n 0, 1) := by decide +kernel
theorem dX6_asked_19 : decode cX6_asked 19 = .ok (.getfield 102, 3) := by decide +kernel
theorem dX6_asked_22 : decode cX6_asked 22 = .ok (.iload_n 1, 1) := by decide +kernel
theorem dX6_asked_23 : decode cX6_asked 23 = .ok (.iaload, 1) := by decide +kernel
theorem dX6_asked_24 : decode cX6_asked 24 = .ok (.bipush 8, 2) := by decide +kernel
theorem dX6_asked_26 : decode cX6_asked 26 = .ok (.irem, 1) := by decide +kernel
theorem dX6_asked_27 : decode cX6_asked 27 = .ok (.iadd, 1) := by decide +kernel
theorem dX6_asked_28 : decode cX6_asked 28 = .ok (.istore 4, 2) := by decide +kernel
theorem dX6_asked_30 : decode cX6_asked 30 = .ok (.aload_n 0, 1) := by decide +kernel
theorem dX6_asked_31 : decode cX6_asked 31 = .ok (.aload_n 0, 1) := by decide +kernel
theorem dX6_asked_32 : decode cX6_asked 32 = .ok (.getfield 93, 3) := by decide +kernel
theorem dX6_asked_35 : decode cX6_asked 35 = .ok (.iload_n 1, 1) := by decide +kernel
theorem dX6_asked_36 : decode cX6_asked 36 = .ok (.iaload, 1) := by decide +kernel
theorem dX6_asked_37 : decode cX6_asked 37 = .ok (.invokevirtual 179, 3) := by decide +kernel
theorem dX6_asked_40 : decode cX6_asked 40 = .ok (.ifCond .ne 12, 3) := by decide +kernel
theorem dX6_asked_43 : decode cX6_asked 43 = .ok (.aload_n 0, 1) := by decide +kernel
theorem dX6_asked_44 : decode cX6_asked 44 = .ok (.iload_n 2, 1) := by decide +kernel
theorem dX6_asked_45 : decode cX6_asked 45 = .ok (.iload_n 1, 1) := by decide +kernel
theorem dX6_asked_46 : decode cX6_asked 46 = .ok (.iconst 3, 1) := by decide +kernel
theorem dX6_asked_47 : decode cX6_asked 47 = .ok (.lconst 0, 1) := by decide +kernel
theorem dX6_asked_48 : decode cX6_asked 48 = .ok (.invokevirtual 213, 3) := by decide +kernel
theorem dX6_asked_51 : decode cX6_asked 51 = .ok (.return_, 1) := by decide +kernel
theorem dX6_asked_52 : decode cX6_asked 52 = .ok (.aload_n 0, 1) := by decide +kernel
theorem dX6_asked_53 : decode cX6_asked 53 = .ok (.getfield 41, 3) := by decide +kernel
theorem dX6_asked_56 : decode cX6_asked 56 = .ok (.iload 4, 2) := by decide +kernel
theorem dX6_asked_58 : decode cX6_asked 58 = .ok (.iaload, 1) := by decide +kernel
theorem dX6_asked_59 : decode cX6_asked 59 = .ok (.iconst 1, 1) := by decide +kernel
theorem dX6_asked_60 : decode cX6_asked 60 = .ok (.if_icmp .eq 49, 3) := by decide +kernel
theorem dX6_asked_63 : decode cX6_asked 63 = .ok (.aload_n 0, 1) := by decide +kernel
theorem dX6_asked_64 : decode cX6_asked 64 = .ok (.iload_n 2, 1) := by decide +kernel
theorem dX6_asked_65 : decode cX6_asked 65 = .ok (.iload_n 1, 1) := by decide +kernel
theorem dX6_asked_66 : decode cX6_asked 66 = .ok (.aload_n 0, 1) := by decide +kernel
theorem dX6_asked_67 : decode cX6_asked 67 = .ok (.getfield 41, 3) := by decide +kernel
theorem dX6_asked_70 : decode cX6_asked 70 = .ok (.iload 4, 2) := by decide +kernel
theorem dX6_asked_72 : decode cX6_asked 72 = .ok (.iaload, 1) := by decide +kernel
theorem dX6_asked_73 : decode cX6_asked 73 = .ok (.iconst 2, 1) := by decide +kernel
theorem dX6_asked_74 : decode cX6_asked 74 = .ok (.if_icmp .ne 7, 3) := by decide +kernel
theorem dX6_asked_77 : decode cX6_asked 77 = .ok (.iconst 2, 1) := by decide +kernel
theorem dX6_asked_78 : decode cX6_asked 78 = .ok (.goto 4, 3) := by decide +kernel
theorem dX6_asked_81 : decode cX6_asked 81 = .ok (.iconst 1, 1) := by decide +kernel
theorem dX6_asked_82 : decode cX6_asked 82 = .ok (.aload_n 0, 1) := by decide +kernel
theorem dX6_asked_83 : decode cX6_asked 83 = .ok (.getfield 41, 3) := by decide +kernel
theorem dX6_asked_86 : decode cX6_asked 86 = .ok (.iload 4, 2) := by decide +kernel
theorem dX6_asked_88 : decode cX6_asked 88 = .ok (.iaload, 1) := by decide +kernel
theorem dX6_asked_89 : decode cX6_asked 89 = .ok (.iconst 2, 1) := by decide +kernel
theorem dX6_asked_90 : decode cX6_asked 90 = .ok (.if_icmp .ne 7, 3) := by decide +kernel
theorem dX6_asked_93 : decode cX6_asked 93 = .ok (.lconst 0, 1) := by decide +kernel
theorem dX6_asked_94 : decode cX6_asked 94 = .ok (.goto 11, 3) := by decide +kernel
theorem dX6_asked_97 : decode cX6_asked 97 = .ok (.aload_n 0, 1) := by decide +kernel
theorem dX6_asked_98 : decode cX6_asked 98 = .ok (.getfield 47, 3) := by decide +kernel
theorem dX6_asked_101 : decode cX6_asked 101 = .ok (.iload 4, 2) := by decide +kernel
theorem dX6_asked_103 : decode cX6_asked 103 = .ok (.iaload, 1) := by decide +kernel
theorem dX6_asked_104 : decode cX6_asked 104 = .ok (.i2l, 1) := by decide +kernel
theorem dX6_asked_105 : decode cX6_asked 105 = .ok (.invokevirtual 213, 3) := by decide +kernel
theorem dX6_asked_108 : decode cX6_asked 108 = .ok (.return_, 1) := by decide +kernel
theorem dX6_asked_109 : decode cX6_asked 109 = .ok (.aload_n 0, 1) := by decide +kernel
theorem dX6_asked_110 : decode cX6_asked 110 = .ok (.iload_n 2, 1) := by decide +kernel
theorem dX6_asked_111 : decode cX6_asked 111 = .ok (.iload 4, 2) := by decide +kernel
theorem dX6_asked_113 : decode cX6_asked 113 = .ok (.iload_n 3, 1) := by decide +kernel
theorem dX6_asked_114 : decode cX6_asked 114 = .ok (.aload_n 0, 1) := by decide +kernel
theorem dX6_asked_115 : decode cX6_asked 115 = .ok (.getfield 93, 3) := by decide +kernel
theorem dX6_asked_118 : decode cX6_asked 118 = .ok (.iload_n 1, 1) := by decide +kernel
theorem dX6_asked_119 : decode cX6_asked 119 = .ok (.iaload, 1) := by decide +kernel
theorem dX6_asked_120 : decode cX6_asked 120 = .ok (.aload_n 0, 1) := by decide +kernel
theorem dX6_asked_121 : decode cX6_asked 121 = .ok (.getfield 99, 3) := by decide +kernel
theorem dX6_asked_124 : decode cX6_asked 124 = .ok (.iload_n 1, 1) := by decide +kernel
theorem dX6_asked_125 : decode cX6_asked 125 = .ok (.iaload, 1) := by decide +kernel
theorem dX6_asked_126 : decode cX6_asked 126 = .ok (.invokevirtual 217, 3) := by decide +kernel
theorem dX6_asked_129 : decode cX6_asked 129 = .ok (.aload_n 0, 1) := by decide +kernel
theorem dX6_asked_130 : decode cX6_asked 130 = .ok (.getfield 96, 3) := by decide +kernel
theorem dX6_asked_133 : decode cX6_asked 133 = .ok (.iload_n 1, 1) := by decide +kernel
theorem dX6_asked_134 : decode cX6_asked 134 = .ok (.iaload, 1) := by decide +kernel
theorem dX6_asked_135 : decode cX6_asked 135 = .ok (.aload_n 0, 1) := by decide +kernel
theorem dX6_asked_136 : decode cX6_asked 136 = .ok (.getfield 71, 3) := by decide +kernel
theorem dX6_asked_139 : decode cX6_asked 139 = .ok (.bipush 6, 2) := by decide +kernel
theorem dX6_asked_141 : decode cX6_asked 141 = .ok (.iload 4, 2) := by decide +kernel
theorem dX6_asked_143 : decode cX6_asked 143 = .ok (.imul, 1) := by decide +kernel
theorem dX6_asked_144 : decode cX6_asked 144 = .ok (.iload_n 3, 1) := by decide +kernel
theorem dX6_asked_145 : decode cX6_asked 145 = .ok (.iadd, 1) := by decide +kernel
theorem dX6_asked_146 : decode cX6_asked 146 = .ok (.iaload, 1) := by decide +kernel
theorem dX6_asked_147 : decode cX6_asked 147 = .ok (.if_icmp .ge 12, 3) := by decide +kernel
theorem dX6_asked_150 : decode cX6_asked 150 = .ok (.aload_n 0, 1) := by decide +kernel
theorem dX6_asked_151 : decode cX6_asked 151 = .ok (.iload_n 2, 1) := by decide +kernel
theorem dX6_asked_152 : decode cX6_asked 152 = .ok (.iload_n 1, 1) := by decide +kernel
theorem dX6_asked_153 : decode cX6_asked 153 = .ok (.iconst 4, 1) := by decide +kernel
theorem dX6_asked_154 : decode cX6_asked 154 = .ok (.lconst 0, 1) := by decide +kernel
theorem dX6_asked_155 : decode cX6_asked 155 = .ok (.invokevirtual 213, 3) := by decide +kernel
theorem dX6_asked_158 : decode cX6_asked 158 = .ok (.return_, 1) := by decide +kernel
theorem dX6_asked_159 : decode cX6_asked 159 = .ok (.iconst 0, 1) := by decide +kernel
theorem dX6_asked_160 : decode cX6_asked 160 = .ok (.istore 5, 2) := by decide +kernel
theorem dX6_asked_162 : decode cX6_asked 162 = .ok (.iload 5, 2) := by decide +kernel
theorem dX6_asked_164 : decode cX6_asked 164 = .ok (.aload_n 0, 1) := by decide +kernel
theorem dX6_asked_165 : decode cX6_asked 165 = .ok (.getfield 53, 3) := by decide +kernel
theorem dX6_asked_168 : decode cX6_asked 168 = .ok (.iload 4, 2) := by decide +kernel
theorem dX6_asked_170 : decode cX6_asked 170 = .ok (.iaload, 1) := by decide +kernel
theorem dX6_asked_171 : decode cX6_asked 171 = .ok (.if_icmp .ge 80, 3) := by decide +kernel
theorem dX6_asked_174 : decode cX6_asked 174 = .ok (.bipush 12, 2) := by decide +kernel
theorem dX6_asked_176 : decode cX6_asked 176 = .ok (.iload 4, 2) := by decide +kernel
theorem dX6_asked_178 : decode cX6_asked 178 = .ok (.imul, 1) := by decide +kernel
theorem dX6_asked_179 : decode cX6_asked 179 = .ok (.iload 5, 2) := by decide +kernel
theorem dX6_asked_181 : decode cX6_asked 181 = .ok (.iadd, 1) := by decide +kernel
theorem dX6_asked_182 : decode cX6_asked 182 = .ok (.istore 6, 2) := by decide +kernel
theorem dX6_asked_184 : decode cX6_asked 184 = .ok (.aload_n 0, 1) := by decide +kernel
theorem dX6_asked_185 : decode cX6_asked 185 = .ok (.getfield 56, 3) := by decide +kernel
theorem dX6_asked_188 : decode cX6_asked 188 = .ok (.iload 6, 2) := by decide +kernel
theorem dX6_asked_190 : decode cX6_asked 190 = .ok (.iaload, 1) := by decide +kernel
theorem dX6_asked_191 : decode cX6_asked 191 = .ok (.iload_n 3, 1) := by decide +kernel
theorem dX6_asked_192 : decode cX6_asked 192 = .ok (.if_icmp .ne 53, 3) := by decide +kernel
theorem dX6_asked_195 : decode cX6_asked 195 = .ok (.aload_n 0, 1) := by decide +kernel
theorem dX6_asked_196 : decode cX6_asked 196 = .ok (.getfield 59, 3) := by decide +kernel
theorem dX6_asked_199 : decode cX6_asked 199 = .ok (.iload 6, 2) := by decide +kernel
theorem dX6_asked_201 : decode cX6_asked 201 = .ok (.iaload, 1) := by decide +kernel
theorem dX6_asked_202 : decode cX6_asked 202 = .ok (.aload_n 0, 1) := by decide +kernel
theorem dX6_asked_203 : decode cX6_asked 203 = .ok (.getfield 93, 3) := by decide +kernel
theorem dX6_asked_206 : decode cX6_asked 206 = .ok (.iload_n 1, 1) := by decide +kernel
theorem dX6_asked_207 : decode cX6_asked 207 = .ok (.iaload, 1) := by decide +kernel
theorem dX6_asked_208 : decode cX6_asked 208 = .ok (.if_icmp .ne 37, 3) := by decide +kernel
theorem dX6_asked_211 : decode cX6_asked 211 = .ok (.aload_n 0, 1) := by decide +kernel
theorem dX6_asked_212 : decode cX6_asked 212 = .ok (.getfield 62, 3) := by decide +kernel
theorem dX6_asked_215 : decode cX6_asked 215 = .ok (.iload 6, 2) := by decide +kernel
theorem dX6_asked_217 : decode cX6_asked 217 = .ok (.iaload, 1) := by decide +kernel
theorem dX6_asked_218 : decode cX6_asked 218 = .ok (.aload_n 0, 1) := by decide +kernel
theorem dX6_asked_219 : decode cX6_asked 219 = .ok (.getfield 96, 3) := by decide +kernel
theorem dX6_asked_222 : decode cX6_asked 222 = .ok (.iload_n 1, 1) := by decide +kernel
theorem dX6_asked_223 : decode cX6_asked 223 = .ok (.iaload, 1) := by decide +kernel
theorem dX6_asked_224 : decode cX6_asked 224 = .ok (.if_icmp .eq 6, 3) := by decide +kernel
theorem dX6_asked_227 : decode cX6_asked 227 = .ok (.goto 18, 3) := by decide +kernel
theorem dX6_asked_230 : decode cX6_asked 230 = .ok (.aload_n 0, 1) := by decide +kernel
theorem dX6_asked_231 : decode cX6_asked 231 = .ok (.iload_n 2, 1) := by decide +kernel
theorem dX6_asked_232 : decode cX6_asked 232 = .ok (.iload_n 1, 1) := by decide +kernel
theorem dX6_asked_233 : decode cX6_asked 233 = .ok (.iconst 0, 1) := by decide +kernel
theorem dX6_asked_234 : decode cX6_asked 234 = .ok (.aload_n 0, 1) := by decide +kernel
theorem dX6_asked_235 : decode cX6_asked 235 = .ok (.getfield 65, 3) := by decide +kernel
theorem dX6_asked_238 : decode cX6_asked 238 = .ok (.iload 6, 2) := by decide +kernel
theorem dX6_asked_240 : decode cX6_asked 240 = .ok (.laload, 1) := by decide +kernel
theorem dX6_asked_241 : decode cX6_asked 241 = .ok (.invokevirtual 213, 3) := by decide +kernel
theorem dX6_asked_244 : decode cX6_asked 244 = .ok (.return_, 1) := by decide +kernel
theorem dX6_asked_245 : decode cX6_asked 245 = .ok (.iinc 5 1, 3) := by decide +kernel
theorem dX6_asked_248 : decode cX6_asked 248 = .ok (.goto (-86), 3) := by decide +kernel
theorem dX6_asked_251 : decode cX6_asked 251 = .ok (.aload_n 0, 1) := by decide +kernel
theorem dX6_asked_252 : decode cX6_asked 252 = .ok (.getfield 53, 3) := by decide +kernel
theorem dX6_asked_255 : decode cX6_asked 255 = .ok (.iload 4, 2) := by decide +kernel
theorem dX6_asked_257 : decode cX6_asked 257 = .ok (.iaload, 1) := by decide +kernel
theorem dX6_asked_258 : decode cX6_asked 258 = .ok (.bipush 12, 2) := by decide +kernel
theorem dX6_asked_260 : decode cX6_asked 260 = .ok (.if_icmp .ne 12, 3) := by decide +kernel
theorem dX6_asked_263 : decode cX6_asked 263 = .ok (.aload_n 0, 1) := by decide +kernel
theorem dX6_asked_264 : decode cX6_asked 264 = .ok (.iload_n 2, 1) := by decide +kernel
theorem dX6_asked_265 : decode cX6_asked 265 = .ok (.iload_n 1, 1) := by decide +kernel
theorem dX6_asked_266 : decode cX6_asked 266 = .ok (.iconst 2, 1) := by decide +kernel
theorem dX6_asked_267 : decode cX6_asked 267 = .ok (.lconst 0, 1) := by decide +kernel
theorem dX6_asked_268 : decode cX6_asked 268 = .ok (.invokevirtual 213, 3) := by decide +kernel
theorem dX6_asked_271 : decode cX6_asked 271 = .ok (.return_, 1) := by decide +kernel
theorem dX6_asked_272 : decode cX6_asked 272 = .ok (.aload_n 0, 1) := by decide +kernel
theorem dX6_asked_273 : decode cX6_asked 273 = .ok (.iconst 4, 1) := by decide +kernel
theorem dX6_asked_274 : decode cX6_asked 274 = .ok (.iload 4, 2) := by decide +kernel
theorem dX6_asked_276 : decode cX6_asked 276 = .ok (.imul, 1) := by decide +kernel
theorem dX6_asked_277 : decode cX6_asked 277 = .ok (.aload_n 0, 1) := by decide +kernel
theorem dX6_asked_278 : decode cX6_asked 278 = .ok (.getfield 102, 3) := by decide +kernel
theorem dX6_asked_281 : decode cX6_asked 281 = .ok (.iload_n 1, 1) := by decide +kernel
theorem dX6_asked_282 : decode cX6_asked 282 = .ok (.iaload, 1) := by decide +kernel
theorem dX6_asked_283 : decode cX6_asked 283 = .ok (.bipush 8, 2) := by decide +kernel
theorem dX6_asked_285 : decode cX6_asked 285 = .ok (.idiv, 1) := by decide +kernel
theorem dX6_asked_286 : decode cX6_asked 286 = .ok (.iadd, 1) := by decide +kernel
theorem dX6_asked_287 : decode cX6_asked 287 = .ok (.iload_n 1, 1) := by decide +kernel
theorem dX6_asked_288 : decode cX6_asked 288 = .ok (.invokevirtual 221, 3) := by decide +kernel
theorem dX6_asked_291 : decode cX6_asked 291 = .ok (.lstore 5, 2) := by decide +kernel
theorem dX6_asked_293 : decode cX6_asked 293 = .ok (.bipush 12, 2) := by decide +kernel
theorem dX6_asked_295 : decode cX6_asked 295 = .ok (.iload 4, 2) := by decide +kernel
theorem dX6_asked_297 : decode cX6_asked 297 = .ok (.imul, 1) := by decide +kernel
theorem dX6_asked_298 : decode cX6_asked 298 = .ok (.aload_n 0, 1) := by decide +kernel
theorem dX6_asked_299 : decode cX6_asked 299 = .ok (.getfield 53, 3) := by decide +kernel
theorem dX6_asked_302 : decode cX6_asked 302 = .ok (.iload 4, 2) := by decide +kernel
theorem dX6_asked_304 : decode cX6_asked 304 = .ok (.iaload, 1) := by decide +kernel
theorem dX6_asked_305 : decode cX6_asked 305 = .ok (.iadd, 1) := by decide +kernel
theorem dX6_asked_306 : decode cX6_asked 306 = .ok (.istore 7, 2) := by decide +kernel
theorem dX6_asked_308 : decode cX6_asked 308 = .ok (.aload_n 0, 1) := by decide +kernel
theorem dX6_asked_309 : decode cX6_asked 309 = .ok (.getfield 53, 3) := by decide +kernel
theorem dX6_asked_312 : decode cX6_asked 312 = .ok (.iload 4, 2) := by decide +kernel
theorem dX6_asked_314 : decode cX6_asked 314 = .ok (.dup2, 1) := by decide +kernel
theorem dX6_asked_315 : decode cX6_asked 315 = .ok (.iaload, 1) := by decide +kernel
theorem dX6_asked_316 : decode cX6_asked 316 = .ok (.iconst 1, 1) := by decide +kernel
theorem dX6_asked_317 : decode cX6_asked 317 = .ok (.iadd, 1) := by decide +kernel
theorem dX6_asked_318 : decode cX6_asked 318 = .ok (.iastore, 1) := by decide +kernel
theorem dX6_asked_319 : decode cX6_asked 319 = .ok (.aload_n 0, 1) := by decide +kernel
theorem dX6_asked_320 : decode cX6_asked 320 = .ok (.getfield 56, 3) := by decide +kernel
theorem dX6_asked_323 : decode cX6_asked 323 = .ok (.iload 7, 2) := by decide +kernel
theorem dX6_asked_325 : decode cX6_asked 325 = .ok (.iload_n 3, 1) := by decide +kernel
theorem dX6_asked_326 : decode cX6_asked 326 = .ok (.iastore, 1) := by decide +kernel
theorem dX6_asked_327 : decode cX6_asked 327 = .ok (.aload_n 0, 1) := by decide +kernel
theorem dX6_asked_328 : decode cX6_asked 328 = .ok (.getfield 59, 3) := by decide +kernel
theorem dX6_asked_331 : decode cX6_asked 331 = .ok (.iload 7, 2) := by decide +kernel
theorem dX6_asked_333 : decode cX6_asked 333 = .ok (.aload_n 0, 1) := by decide +kernel
theorem dX6_asked_334 : decode cX6_asked 334 = .ok (.getfield 93, 3) := by decide +kernel
theorem dX6_asked_337 : decode cX6_asked 337 = .ok (.iload_n 1, 1) := by decide +kernel
theorem dX6_asked_338 : decode cX6_asked 338 = .ok (.iaload, 1) := by decide +kernel
theorem dX6_asked_339 : decode cX6_asked 339 = .ok (.iastore, 1) := by decide +kernel
theorem dX6_asked_340 : decode cX6_asked 340 = .ok (.aload_n 0, 1) := by decide +kernel
theorem dX6_asked_341 : decode cX6_asked 341 = .ok (.getfield 62, 3) := by decide +kernel
theorem dX6_asked_344 : decode cX6_asked 344 = .ok (.iload 7, 2) := by decide +kernel
theorem dX6_asked_346 : decode cX6_asked 346 = .ok (.aload_n 0, 1) := by decide +kernel
theorem dX6_asked_347 : decode cX6_asked 347 = .ok (.getfield 96, 3) := by decide +kernel
theorem dX6_asked_350 : decode cX6_asked 350 = .ok (.iload_n 1, 1) := by decide +kernel
theorem dX6_asked_351 : decode cX6_asked 351 = .ok (.iaload, 1) := by decide +kernel
theorem dX6_asked_352 : decode cX6_asked 352 = .ok (.iastore, 1) := by decide +kernel
theorem dX6_asked_353 : decode cX6_asked 353 = .ok (.aload_n 0, 1) := by decide +kernel
theorem dX6_asked_354 : decode cX6_asked 354 = .ok (.getfield 65, 3) := by decide +kernel
theorem dX6_asked_357 : decode cX6_asked 357 = .ok (.iload 7, 2) := by decide +kernel
theorem dX6_asked_359 : decode cX6_asked 359 = .ok (.lload 5, 2) := by decide +kernel
theorem dX6_asked_361 : decode cX6_asked 361 = .ok (.lastore, 1) := by decide +kernel
theorem dX6_asked_362 : decode cX6_asked 362 = .ok (.aload_n 0, 1) := by decide +kernel
theorem dX6_asked_363 : decode cX6_asked 363 = .ok (.dup, 1) := by decide +kernel
theorem dX6_asked_364 : decode cX6_asked 364 = .ok (.getfield 225, 3) := by decide +kernel
theorem dX6_asked_367 : decode cX6_asked 367 = .ok (.iconst 1, 1) := by decide +kernel
theorem dX6_asked_368 : decode cX6_asked 368 = .ok (.iadd, 1) := by decide +kernel
theorem dX6_asked_369 : decode cX6_asked 369 = .ok (.putfield 225, 3) := by decide +kernel
theorem dX6_asked_372 : decode cX6_asked 372 = .ok (.aload_n 0, 1) := by decide +kernel
theorem dX6_asked_373 : decode cX6_asked 373 = .ok (.getfield 78, 3) := by decide +kernel
theorem dX6_asked_376 : decode cX6_asked 376 = .ok (.iload_n 2, 1) := by decide +kernel
theorem dX6_asked_377 : decode cX6_asked 377 = .ok (.iconst 1, 1) := by decide +kernel
theorem dX6_asked_378 : decode cX6_asked 378 = .ok (.bastore, 1) := by decide +kernel
theorem dX6_asked_379 : decode cX6_asked 379 = .ok (.aload_n 0, 1) := by decide +kernel
theorem dX6_asked_380 : decode cX6_asked 380 = .ok (.iload_n 2, 1) := by decide +kernel
theorem dX6_asked_381 : decode cX6_asked 381 = .ok (.iload_n 1, 1) := by decide +kernel
theorem dX6_asked_382 : decode cX6_asked 382 = .ok (.iconst 0, 1) := by decide +kernel
theorem dX6_asked_383 : decode cX6_asked 383 = .ok (.lload 5, 2) := by decide +kernel
theorem dX6_asked_385 : decode cX6_asked 385 = .ok (.invokevirtual 213, 3) := by decide +kernel
theorem dX6_asked_388 : decode cX6_asked 388 = .ok (.return_, 1) := by decide +kernel
theorem dX6_effect_0 : decode cX6_effect 0 = .ok (.aload_n 0, 1) := by decide +kernel
theorem dX6_effect_1 : decode cX6_effect 1 = .ok (.getfield 50, 3) := by decide +kernel
theorem dX6_effect_4 : decode cX6_effect 4 = .ok (.iload_n 1, 1) := by decide +kernel
theorem dX6_effect_5 : decode cX6_effect 5 = .ok (.laload, 1) := by decide +kernel
theorem dX6_effect_6 : decode cX6_effect 6 = .ok (.lstore_n 3, 1) := by decide +kernel
theorem dX6_effect_7 : decode cX6_effect 7 = .ok (.aload_n 0, 1) := by decide +kernel
theorem dX6_effect_8 : decode cX6_effect 8 = .ok (.getfield 105, 3) := by decide +kernel
theorem dX6_effect_11 : decode cX6_effect 11 = .ok (.iload_n 2, 1) := by decide +kernel
theorem dX6_effect_12 : decode cX6_effect 12 = .ok (.iaload, 1) := by decide +kernel
theorem dX6_effect_13 : decode cX6_effect 13 = .ok (.tableswitch 102 0 2 #[27, 41, 62], 27) := by decide +kernel
theorem dX6_effect_40 : decode cX6_effect 40 = .ok (.aload_n 0, 1) := by decide +kernel
theorem dX6_effect_41 : decode cX6_effect 41 = .ok (.getfield 50, 3) := by decide +kernel
theorem dX6_effect_44 : decode cX6_effect 44 = .ok (.iload_n 1, 1) := by decide +kernel
theorem dX6_effect_45 : decode cX6_effect 45 = .ok (.aload_n 0, 1) := by decide +kernel
theorem dX6_effect_46 : decode cX6_effect 46 = .ok (.getfield 108, 3) := by decide +kernel
theorem dX6_effect_49 : decode cX6_effect 49 = .ok (.iload_n 2, 1) := by decide +kernel
theorem dX6_effect_50 : decode cX6_effect 50 = .ok (.laload, 1) := by decide +kernel
theorem dX6_effect_51 : decode cX6_effect 51 = .ok (.lastore, 1) := by decide +kernel
theorem dX6_effect_52 : decode cX6_effect 52 = .ok (.lload_n 3, 1) := by decide +kernel
theorem dX6_effect_53 : decode cX6_effect 53 = .ok (.lreturn, 1) := by decide +kernel
theorem dX6_effect_54 : decode cX6_effect 54 = .ok (.aload_n 0, 1) := by decide +kernel
theorem dX6_effect_55 : decode cX6_effect 55 = .ok (.getfield 50, 3) := by decide +kernel
theorem dX6_effect_58 : decode cX6_effect 58 = .ok (.iload_n 1, 1) := by decide +kernel
theorem dX6_effect_59 : decode cX6_effect 59 = .ok (.lload_n 3, 1) := by decide +kernel
theorem dX6_effect_60 : decode cX6_effect 60 = .ok (.aload_n 0, 1) := by decide +kernel
theorem dX6_effect_61 : decode cX6_effect 61 = .ok (.getfield 108, 3) := by decide +kernel
theorem dX6_effect_64 : decode cX6_effect 64 = .ok (.iload_n 2, 1) := by decide +kernel
theorem dX6_effect_65 : decode cX6_effect 65 = .ok (.laload, 1) := by decide +kernel
theorem dX6_effect_66 : decode cX6_effect 66 = .ok (.ladd, 1) := by decide +kernel
theorem dX6_effect_67 : decode cX6_effect 67 = .ok (.lastore, 1) := by decide +kernel
theorem dX6_effect_68 : decode cX6_effect 68 = .ok (.aload_n 0, 1) := by decide +kernel
theorem dX6_effect_69 : decode cX6_effect 69 = .ok (.getfield 50, 3) := by decide +kernel
theorem dX6_effect_72 : decode cX6_effect 72 = .ok (.iload_n 1, 1) := by decide +kernel
theorem dX6_effect_73 : decode cX6_effect 73 = .ok (.laload, 1) := by decide +kernel
theorem dX6_effect_74 : decode cX6_effect 74 = .ok (.lreturn, 1) := by decide +kernel
theorem dX6_effect_75 : decode cX6_effect 75 = .ok (.lload_n 3, 1) := by decide +kernel
theorem dX6_effect_76 : decode cX6_effect 76 = .ok (.aload_n 0, 1) := by decide +kernel
theorem dX6_effect_77 : decode cX6_effect 77 = .ok (.getfield 108, 3) := by decide +kernel
theorem dX6_effect_80 : decode cX6_effect 80 = .ok (.iload_n 2, 1) := by decide +kernel
theorem dX6_effect_81 : decode cX6_effect 81 = .ok (.laload, 1) := by decide +kernel
theorem dX6_effect_82 : decode cX6_effect 82 = .ok (.lcmp, 1) := by decide +kernel
theorem dX6_effect_83 : decode cX6_effect 83 = .ok (.ifCond .ne 15, 3) := by decide +kernel
theorem dX6_effect_86 : decode cX6_effect 86 = .ok (.aload_n 0, 1) := by decide +kernel
theorem dX6_effect_87 : decode cX6_effect 87 = .ok (.getfield 50, 3) := by decide +kernel
theorem dX6_effect_90 : decode cX6_effect 90 = .ok (.iload_n 1, 1) := by decide +kernel
theorem dX6_effect_91 : decode cX6_effect 91 = .ok (.aload_n 0, 1) := by decide +kernel
theorem dX6_effect_92 : decode cX6_effect 92 = .ok (.getfield 111, 3) := by decide +kernel
theorem dX6_effect_95 : decode cX6_effect 95 = .ok (.iload_n 2, 1) := by decide +kernel
theorem dX6_effect_96 : decode cX6_effect 96 = .ok (.laload, 1) := by decide +kernel
theorem dX6_effect_97 : decode cX6_effect 97 = .ok (.lastore, 1) := by decide +kernel
theorem dX6_effect_98 : decode cX6_effect 98 = .ok (.lload_n 3, 1) := by decide +kernel
theorem dX6_effect_99 : decode cX6_effect 99 = .ok (.aload_n 0, 1) := by decide +kernel
theorem dX6_effect_100 : decode cX6_effect 100 = .ok (.getfield 108, 3) := by decide +kernel
theorem dX6_effect_103 : decode cX6_effect 103 = .ok (.iload_n 2, 1) := by decide +kernel
theorem dX6_effect_104 : decode cX6_effect 104 = .ok (.laload, 1) := by decide +kernel
theorem dX6_effect_105 : decode cX6_effect 105 = .ok (.lcmp, 1) := by decide +kernel
theorem dX6_effect_106 : decode cX6_effect 106 = .ok (.ifCond .ne 7, 3) := by decide +kernel
theorem dX6_effect_109 : decode cX6_effect 109 = .ok (.lconst 1, 1) := by decide +kernel
theorem dX6_effect_110 : decode cX6_effect 110 = .ok (.goto 4, 3) := by decide +kernel
theorem dX6_effect_113 : decode cX6_effect 113 = .ok (.lconst 0, 1) := by decide +kernel
theorem dX6_effect_114 : decode cX6_effect 114 = .ok (.lreturn, 1) := by decide +kernel
theorem dX6_effect_115 : decode cX6_effect 115 = .ok (.aload_n 0, 1) := by decide +kernel
theorem dX6_effect_116 : decode cX6_effect 116 = .ok (.getfield 50, 3) := by decide +kernel
theorem dX6_effect_119 : decode cX6_effect 119 = .ok (.iload_n 1, 1) := by decide +kernel
theorem dX6_effect_120 : decode cX6_effect 120 = .ok (.lload_n 3, 1) := by decide +kernel
theorem dX6_effect_121 : decode cX6_effect 121 = .ok (.aload_n 0, 1) := by decide +kernel
theorem dX6_effect_122 : decode cX6_effect 122 = .ok (.getfield 108, 3) := by decide +kernel
theorem dX6_effect_125 : decode cX6_effect 125 = .ok (.iload_n 2, 1) := by decide +kernel
theorem dX6_effect_126 : decode cX6_effect 126 = .ok (.laload, 1) := by decide +kernel
theorem dX6_effect_127 : decode cX6_effect 127 = .ok (.lmul, 1) := by decide +kernel
theorem dX6_effect_128 : decode cX6_effect 128 = .ok (.lastore, 1) := by decide +kernel
theorem dX6_effect_129 : decode cX6_effect 129 = .ok (.aload_n 0, 1) := by decide +kernel
theorem dX6_effect_130 : decode cX6_effect 130 = .ok (.getfield 50, 3) := by decide +kernel
theorem dX6_effect_133 : decode cX6_effect 133 = .ok (.iload_n 1, 1) := by decide +kernel
theorem dX6_effect_134 : decode cX6_effect 134 = .ok (.laload, 1) := by decide +kernel
theorem dX6_effect_135 : decode cX6_effect 135 = .ok (.lreturn, 1) := by decide +kernel
theorem dX6_moved_0 : decode cX6_moved 0 = .ok (.aload_n 0, 1) := by decide +kernel
theorem dX6_moved_1 : decode cX6_moved 1 = .ok (.getfield 87, 3) := by decide +kernel
theorem dX6_moved_4 : decode cX6_moved 4 = .ok (.iload_n 1, 1) := by decide +kernel
theorem dX6_moved_5 : decode cX6_moved 5 = .ok (.iaload, 1) := by decide +kernel
theorem dX6_moved_6 : decode cX6_moved 6 = .ok (.istore_n 2, 1) := by decide +kernel
theorem dX6_moved_7 : decode cX6_moved 7 = .ok (.aload_n 0, 1) := by decide +kernel
theorem dX6_moved_8 : decode cX6_moved 8 = .ok (.getfield 102, 3) := by decide +kernel
theorem dX6_moved_11 : decode cX6_moved 11 = .ok (.iload_n 1, 1) := by decide +kernel
theorem dX6_moved_12 : decode cX6_moved 12 = .ok (.iaload, 1) := by decide +kernel
theorem dX6_moved_13 : decode cX6_moved 13 = .ok (.istore_n 3, 1) := by decide +kernel
theorem dX6_moved_14 : decode cX6_moved 14 = .ok (.bipush 16, 2) := by decide +kernel
theorem dX6_moved_16 : decode cX6_moved 16 = .ok (.iload_n 2, 1) := by decide +kernel
theorem dX6_moved_17 : decode cX6_moved 17 = .ok (.imul, 1) := by decide +kernel
theorem dX6_moved_18 : decode cX6_moved 18 = .ok (.iload_n 3, 1) := by decide +kernel
theorem dX6_moved_19 : decode cX6_moved 19 = .ok (.iadd, 1) := by decide +kernel
theorem dX6_moved_20 : decode cX6_moved 20 = .ok (.istore 4, 2) := by decide +kernel
theorem dX6_moved_22 : decode cX6_moved 22 = .ok (.aload_n 0, 1) := by decide +kernel
theorem dX6_moved_23 : decode cX6_moved 23 = .ok (.getfield 93, 3) := by decide +kernel
theorem dX6_moved_26 : decode cX6_moved 26 = .ok (.iload_n 1, 1) := by decide +kernel
theorem dX6_moved_27 : decode cX6_moved 27 = .ok (.iaload, 1) := by decide +kernel
theorem dX6_moved_28 : decode cX6_moved 28 = .ok (.aload_n 0, 1) := by decide +kernel
theorem dX6_moved_29 : decode cX6_moved 29 = .ok (.getfield 44, 3) := by decide +kernel
theorem dX6_moved_32 : decode cX6_moved 32 = .ok (.iload 4, 2) := by decide +kernel
theorem dX6_moved_34 : decode cX6_moved 34 = .ok (.iaload, 1) := by decide +kernel
theorem dX6_moved_35 : decode cX6_moved 35 = .ok (.if_icmp .le 276, 3) := by decide +kernel
theorem dX6_moved_38 : decode cX6_moved 38 = .ok (.aload_n 0, 1) := by decide +kernel
theorem dX6_moved_39 : decode cX6_moved 39 = .ok (.getfield 78, 3) := by decide +kernel
theorem dX6_moved_42 : decode cX6_moved 42 = .ok (.iload_n 2, 1) := by decide +kernel
theorem dX6_moved_43 : decode cX6_moved 43 = .ok (.iconst 1, 1) := by decide +kernel
theorem dX6_moved_44 : decode cX6_moved 44 = .ok (.bastore, 1) := by decide +kernel
theorem dX6_moved_45 : decode cX6_moved 45 = .ok (.aload_n 0, 1) := by decide +kernel
theorem dX6_moved_46 : decode cX6_moved 46 = .ok (.getfield 41, 3) := by decide +kernel
theorem dX6_moved_49 : decode cX6_moved 49 = .ok (.iload 4, 2) := by decide +kernel
theorem dX6_moved_51 : decode cX6_moved 51 = .ok (.iconst 1, 1) := by decide +kernel
theorem dX6_moved_52 : decode cX6_moved 52 = .ok (.iastore, 1) := by decide +kernel
theorem dX6_moved_53 : decode cX6_moved 53 = .ok (.aload_n 0, 1) := by decide +kernel
theorem dX6_moved_54 : decode cX6_moved 54 = .ok (.getfield 44, 3) := by decide +kernel
theorem dX6_moved_57 : decode cX6_moved 57 = .ok (.iload 4, 2) := by decide +kernel
theorem dX6_moved_59 : decode cX6_moved 59 = .ok (.aload_n 0, 1) := by decide +kernel
theorem dX6_moved_60 : decode cX6_moved 60 = .ok (.getfield 93, 3) := by decide +kernel
theorem dX6_moved_63 : decode cX6_moved 63 = .ok (.iload_n 1, 1) := by decide +kernel
theorem dX6_moved_64 : decode cX6_moved 64 = .ok (.iaload, 1) := by decide +kernel
theorem dX6_moved_65 : decode cX6_moved 65 = .ok (.iastore, 1) := by decide +kernel
theorem dX6_moved_66 : decode cX6_moved 66 = .ok (.aload_n 0, 1) := by decide +kernel
theorem dX6_moved_67 : decode cX6_moved 67 = .ok (.getfield 47, 3) := by decide +kernel
theorem dX6_moved_70 : decode cX6_moved 70 = .ok (.iload 4, 2) := by decide +kernel
theorem dX6_moved_72 : decode cX6_moved 72 = .ok (.iload_n 2, 1) := by decide +kernel
theorem dX6_moved_73 : decode cX6_moved 73 = .ok (.iastore, 1) := by decide +kernel
theorem dX6_moved_74 : decode cX6_moved 74 = .ok (.aload_n 0, 1) := by decide +kernel
theorem dX6_moved_75 : decode cX6_moved 75 = .ok (.getfield 53, 3) := by decide +kernel
theorem dX6_moved_78 : decode cX6_moved 78 = .ok (.iload 4, 2) := by decide +kernel
theorem dX6_moved_80 : decode cX6_moved 80 = .ok (.aload_n 0, 1) := by decide +kernel
theorem dX6_moved_81 : decode cX6_moved 81 = .ok (.getfield 99, 3) := by decide +kernel
theorem dX6_moved_84 : decode cX6_moved 84 = .ok (.iload_n 1, 1) := by decide +kernel
theorem dX6_moved_85 : decode cX6_moved 85 = .ok (.iaload, 1) := by decide +kernel
theorem dX6_moved_86 : decode cX6_moved 86 = .ok (.iastore, 1) := by decide +kernel
theorem dX6_moved_87 : decode cX6_moved 87 = .ok (.iconst 0, 1) := by decide +kernel
theorem dX6_moved_88 : decode cX6_moved 88 = .ok (.istore 5, 2) := by decide +kernel
theorem dX6_moved_90 : decode cX6_moved 90 = .ok (.iload 5, 2) := by decide +kernel
theorem dX6_moved_92 : decode cX6_moved 92 = .ok (.iconst 4, 1) := by decide +kernel
theorem dX6_moved_93 : decode cX6_moved 93 = .ok (.if_icmp .ge 32, 3) := by decide +kernel
theorem dX6_moved_96 : decode cX6_moved 96 = .ok (.aload_n 0, 1) := by decide +kernel
theorem dX6_moved_97 : decode cX6_moved 97 = .ok (.getfield 50, 3) := by decide +kernel
theorem dX6_moved_100 : decode cX6_moved 100 = .ok (.iconst 4, 1) := by decide +kernel
theorem dX6_moved_101 : decode cX6_moved 101 = .ok (.iload 4, 2) := by decide +kernel
theorem dX6_moved_103 : decode cX6_moved 103 = .ok (.imul, 1) := by decide +kernel
theorem dX6_moved_104 : decode cX6_moved 104 = .ok (.iload 5, 2) := by decide +kernel
theorem dX6_moved_106 : decode cX6_moved 106 = .ok (.iadd, 1) := by decide +kernel
theorem dX6_moved_107 : decode cX6_moved 107 = .ok (.aload_n 0, 1) := by decide +kernel
theorem dX6_moved_108 : decode cX6_moved 108 = .ok (.getfield 114, 3) := by decide +kernel
theorem dX6_moved_111 : decode cX6_moved 111 = .ok (.iconst 4, 1) := by decide +kernel
theorem dX6_moved_112 : decode cX6_moved 112 = .ok (.iload_n 1, 1) := by decide +kernel
theorem dX6_moved_113 : decode cX6_moved 113 = .ok (.imul, 1) := by decide +kernel
theorem dX6_moved_114 : decode cX6_moved 114 = .ok (.iload 5, 2) := by decide +kernel
theorem dX6_moved_116 : decode cX6_moved 116 = .ok (.iadd, 1) := by decide +kernel
theorem dX6_moved_117 : decode cX6_moved 117 = .ok (.laload, 1) := by decide +kernel
theorem dX6_moved_118 : decode cX6_moved 118 = .ok (.lastore, 1) := by decide +kernel
theorem dX6_moved_119 : decode cX6_moved 119 = .ok (.iinc 5 1, 3) := by decide +kernel
theorem dX6_moved_122 : decode cX6_moved 122 = .ok (.goto (-32), 3) := by decide +kernel
theorem dX6_moved_125 : decode cX6_moved 125 = .ok (.iconst 0, 1) := by decide +kernel
theorem dX6_moved_126 : decode cX6_moved 126 = .ok (.istore 5, 2) := by decide +kernel
theorem dX6_moved_128 : decode cX6_moved 128 = .ok (.iload 5, 2) := by decide +kernel
theorem dX6_moved_130 : decode cX6_moved 130 = .ok (.aload_n 0, 1) := by decide +kernel
theorem dX6_moved_131 : decode cX6_moved 131 = .ok (.getfield 99, 3) := by decide +kernel
theorem dX6_moved_134 : decode cX6_moved 134 = .ok (.iload_n 1, 1) := by decide +kernel
theorem dX6_moved_135 : decode cX6_moved 135 = .ok (.iaload, 1) := by decide +kernel
theorem dX6_moved_136 : decode cX6_moved 136 = .ok (.if_icmp .ge 109, 3) := by decide +kernel
theorem dX6_moved_139 : decode cX6_moved 139 = .ok (.aload_n 0, 1) := by decide +kernel
theorem dX6_moved_140 : decode cX6_moved 140 = .ok (.getfield 56, 3) := by decide +kernel
theorem dX6_moved_143 : decode cX6_moved 143 = .ok (.bipush 12, 2) := by decide +kernel
theorem dX6_moved_145 : decode cX6_moved 145 = .ok (.iload 4, 2) := by decide +kernel
theorem dX6_moved_147 : decode cX6_moved 147 = .ok (.imul, 1) := by decide +kernel
theorem dX6_moved_148 : decode cX6_moved 148 = .ok (.iload 5, 2) := by decide +kernel
theorem dX6_moved_150 : decode cX6_moved 150 = .ok (.iadd, 1) := by decide +kernel
theorem dX6_moved_151 : decode cX6_moved 151 = .ok (.aload_n 0, 1) := by decide +kernel
theorem dX6_moved_152 : decode cX6_moved 152 = .ok (.getfield 118, 3) := by decide +kernel
theorem dX6_moved_155 : decode cX6_moved 155 = .ok (.bipush 12, 2) := by decide +kernel
theorem dX6_moved_157 : decode cX6_moved 157 = .ok (.iload_n 1, 1) := by decide +kernel
theorem dX6_moved_158 : decode cX6_moved 158 = .ok (.imul, 1) := by decide +kernel
theorem dX6_moved_159 : decode cX6_moved 159 = .ok (.iload 5, 2) := by decide +kernel
theorem dX6_moved_161 : decode cX6_moved 161 = .ok (.iadd, 1) := by decide +kernel
theorem dX6_moved_162 : decode cX6_moved 162 = .ok (.iaload, 1) := by decide +kernel
theorem dX6_moved_163 : decode cX6_moved 163 = .ok (.iastore, 1) := by decide +kernel
theorem dX6_moved_164 : decode cX6_moved 164 = .ok (.aload_n 0, 1) := by decide +kernel
theorem dX6_moved_165 : decode cX6_moved 165 = .ok (.getfield 59, 3) := by decide +kernel
theorem dX6_moved_168 : decode cX6_moved 168 = .ok (.bipush 12, 2) := by decide +kernel
theorem dX6_moved_170 : decode cX6_moved 170 = .ok (.iload 4, 2) := by decide +kernel
theorem dX6_moved_172 : decode cX6_moved 172 = .ok (.imul, 1) := by decide +kernel
theorem dX6_moved_173 : decode cX6_moved 173 = .ok (.iload 5, 2) := by decide +kernel
theorem dX6_moved_175 : decode cX6_moved 175 = .ok (.iadd, 1) := by decide +kernel
theorem dX6_moved_176 : decode cX6_moved 176 = .ok (.aload_n 0, 1) := by decide +kernel
theorem dX6_moved_177 : decode cX6_moved 177 = .ok (.getfield 121, 3) := by decide +kernel
theorem dX6_moved_180 : decode cX6_moved 180 = .ok (.bipush 12, 2) := by decide +kernel
theorem dX6_moved_182 : decode cX6_moved 182 = .ok (.iload_n 1, 1) := by decide +kernel
theorem dX6_moved_183 : decode cX6_moved 183 = .ok (.imul, 1) := by decide +kernel
theorem dX6_moved_184 : decode cX6_moved 184 = .ok (.iload 5, 2) := by decide +kernel
theorem dX6_moved_186 : decode cX6_moved 186 = .ok (.iadd, 1) := by decide +kernel
theorem dX6_moved_187 : decode cX6_moved 187 = .ok (.iaload, 1) := by decide +kernel
theorem dX6_moved_188 : decode cX6_moved 188 = .ok (.iastore, 1) := by decide +kernel
theorem dX6_moved_189 : decode cX6_moved 189 = .ok (.aload_n 0, 1) := by decide +kernel
theorem dX6_moved_190 : decode cX6_moved 190 = .ok (.getfield 62, 3) := by decide +kernel
theorem dX6_moved_193 : decode cX6_moved 193 = .ok (.bipush 12, 2) := by decide +kernel
theorem dX6_moved_195 : decode cX6_moved 195 = .ok (.iload 4, 2) := by decide +kernel
theorem dX6_moved_197 : decode cX6_moved 197 = .ok (.imul, 1) := by decide +kernel
theorem dX6_moved_198 : decode cX6_moved 198 = .ok (.iload 5, 2) := by decide +kernel
theorem dX6_moved_200 : decode cX6_moved 200 = .ok (.iadd, 1) := by decide +kernel
theorem dX6_moved_201 : decode cX6_moved 201 = .ok (.aload_n 0, 1) := by decide +kernel
theorem dX6_moved_202 : decode cX6_moved 202 = .ok (.getfield 124, 3) := by decide +kernel
theorem dX6_moved_205 : decode cX6_moved 205 = .ok (.bipush 12, 2) := by decide +kernel
theorem dX6_moved_207 : decode cX6_moved 207 = .ok (.iload_n 1, 1) := by decide +kernel
theorem dX6_moved_208 : decode cX6_moved 208 = .ok (.imul, 1) := by decide +kernel
theorem dX6_moved_209 : decode cX6_moved 209 = .ok (.iload 5, 2) := by decide +kernel
theorem dX6_moved_211 : decode cX6_moved 211 = .ok (.iadd, 1) := by decide +kernel
theorem dX6_moved_212 : decode cX6_moved 212 = .ok (.iaload, 1) := by decide +kernel
theorem dX6_moved_213 : decode cX6_moved 213 = .ok (.iastore, 1) := by decide +kernel
theorem dX6_moved_214 : decode cX6_moved 214 = .ok (.aload_n 0, 1) := by decide +kernel
theorem dX6_moved_215 : decode cX6_moved 215 = .ok (.getfield 65, 3) := by decide +kernel
theorem dX6_moved_218 : decode cX6_moved 218 = .ok (.bipush 12, 2) := by decide +kernel
theorem dX6_moved_220 : decode cX6_moved 220 = .ok (.iload 4, 2) := by decide +kernel
theorem dX6_moved_222 : decode cX6_moved 222 = .ok (.imul, 1) := by decide +kernel
theorem dX6_moved_223 : decode cX6_moved 223 = .ok (.iload 5, 2) := by decide +kernel
theorem dX6_moved_225 : decode cX6_moved 225 = .ok (.iadd, 1) := by decide +kernel
end
section
theorem dX6_moved_226 : decode cX6_moved 226 = .ok (.aload_n 0, 1) := by decide +kernel
theorem dX6_moved_227 : decode cX6_moved 227 = .ok (.getfield 127, 3) := by decide +kernel
theorem dX6_moved_230 : decode cX6_moved 230 = .ok (.bipush 12, 2) := by decide +kernel
theorem dX6_moved_232 : decode cX6_moved 232 = .ok (.iload_n 1, 1) := by decide +kernel
theorem dX6_moved_233 : decode cX6_moved 233 = .ok (.imul, 1) := by decide +kernel
theorem dX6_moved_234 : decode cX6_moved 234 = .ok (.iload 5, 2) := by decide +kernel
theorem dX6_moved_236 : decode cX6_moved 236 = .ok (.iadd, 1) := by decide +kernel
theorem dX6_moved_237 : decode cX6_moved 237 = .ok (.laload, 1) := by decide +kernel
theorem dX6_moved_238 : decode cX6_moved 238 = .ok (.lastore, 1) := by decide +kernel
theorem dX6_moved_239 : decode cX6_moved 239 = .ok (.iinc 5 1, 3) := by decide +kernel
theorem dX6_moved_242 : decode cX6_moved 242 = .ok (.goto (-114), 3) := by decide +kernel
theorem dX6_moved_245 : decode cX6_moved 245 = .ok (.iconst 0, 1) := by decide +kernel
theorem dX6_moved_246 : decode cX6_moved 246 = .ok (.istore 5, 2) := by decide +kernel
theorem dX6_moved_248 : decode cX6_moved 248 = .ok (.iload 5, 2) := by decide +kernel
theorem dX6_moved_250 : decode cX6_moved 250 = .ok (.bipush 6, 2) := by decide +kernel
theorem dX6_moved_252 : decode cX6_moved 252 = .ok (.if_icmp .ge 59, 3) := by decide +kernel
theorem dX6_moved_255 : decode cX6_moved 255 = .ok (.aload_n 0, 1) := by decide +kernel
theorem dX6_moved_256 : decode cX6_moved 256 = .ok (.getfield 68, 3) := by decide +kernel
theorem dX6_moved_259 : decode cX6_moved 259 = .ok (.bipush 6, 2) := by decide +kernel
theorem dX6_moved_261 : decode cX6_moved 261 = .ok (.iload 4, 2) := by decide +kernel
theorem dX6_moved_263 : decode cX6_moved 263 = .ok (.imul, 1) := by decide +kernel
theorem dX6_moved_264 : decode cX6_moved 264 = .ok (.iload 5, 2) := by decide +kernel
theorem dX6_moved_266 : decode cX6_moved 266 = .ok (.iadd, 1) := by decide +kernel
theorem dX6_moved_267 : decode cX6_moved 267 = .ok (.aload_n 0, 1) := by decide +kernel
theorem dX6_moved_268 : decode cX6_moved 268 = .ok (.getfield 130, 3) := by decide +kernel
theorem dX6_moved_271 : decode cX6_moved 271 = .ok (.bipush 6, 2) := by decide +kernel
theorem dX6_moved_273 : decode cX6_moved 273 = .ok (.iload_n 1, 1) := by decide +kernel
theorem dX6_moved_274 : decode cX6_moved 274 = .ok (.imul, 1) := by decide +kernel
theorem dX6_moved_275 : decode cX6_moved 275 = .ok (.iload 5, 2) := by decide +kernel
theorem dX6_moved_277 : decode cX6_moved 277 = .ok (.iadd, 1) := by decide +kernel
theorem dX6_moved_278 : decode cX6_moved 278 = .ok (.iaload, 1) := by decide +kernel
theorem dX6_moved_279 : decode cX6_moved 279 = .ok (.iastore, 1) := by decide +kernel
theorem dX6_moved_280 : decode cX6_moved 280 = .ok (.aload_n 0, 1) := by decide +kernel
theorem dX6_moved_281 : decode cX6_moved 281 = .ok (.getfield 71, 3) := by decide +kernel
theorem dX6_moved_284 : decode cX6_moved 284 = .ok (.bipush 6, 2) := by decide +kernel
theorem dX6_moved_286 : decode cX6_moved 286 = .ok (.iload 4, 2) := by decide +kernel
theorem dX6_moved_288 : decode cX6_moved 288 = .ok (.imul, 1) := by decide +kernel
theorem dX6_moved_289 : decode cX6_moved 289 = .ok (.iload 5, 2) := by decide +kernel
theorem dX6_moved_291 : decode cX6_moved 291 = .ok (.iadd, 1) := by decide +kernel
theorem dX6_moved_292 : decode cX6_moved 292 = .ok (.aload_n 0, 1) := by decide +kernel
theorem dX6_moved_293 : decode cX6_moved 293 = .ok (.getfield 133, 3) := by decide +kernel
theorem dX6_moved_296 : decode cX6_moved 296 = .ok (.bipush 6, 2) := by decide +kernel
theorem dX6_moved_298 : decode cX6_moved 298 = .ok (.iload_n 1, 1) := by decide +kernel
theorem dX6_moved_299 : decode cX6_moved 299 = .ok (.imul, 1) := by decide +kernel
theorem dX6_moved_300 : decode cX6_moved 300 = .ok (.iload 5, 2) := by decide +kernel
theorem dX6_moved_302 : decode cX6_moved 302 = .ok (.iadd, 1) := by decide +kernel
theorem dX6_moved_303 : decode cX6_moved 303 = .ok (.iaload, 1) := by decide +kernel
theorem dX6_moved_304 : decode cX6_moved 304 = .ok (.iastore, 1) := by decide +kernel
theorem dX6_moved_305 : decode cX6_moved 305 = .ok (.iinc 5 1, 3) := by decide +kernel
theorem dX6_moved_308 : decode cX6_moved 308 = .ok (.goto (-60), 3) := by decide +kernel
theorem dX6_moved_311 : decode cX6_moved 311 = .ok (.aload_n 0, 1) := by decide +kernel
theorem dX6_moved_312 : decode cX6_moved 312 = .ok (.iconst 4, 1) := by decide +kernel
theorem dX6_moved_313 : decode cX6_moved 313 = .ok (.aload_n 0, 1) := by decide +kernel
theorem dX6_moved_314 : decode cX6_moved 314 = .ok (.getfield 90, 3) := by decide +kernel
theorem dX6_moved_317 : decode cX6_moved 317 = .ok (.iload_n 1, 1) := by decide +kernel
theorem dX6_moved_318 : decode cX6_moved 318 = .ok (.iaload, 1) := by decide +kernel
theorem dX6_moved_319 : decode cX6_moved 319 = .ok (.iload_n 2, 1) := by decide +kernel
theorem dX6_moved_320 : decode cX6_moved 320 = .ok (.invokevirtual 182, 3) := by decide +kernel
theorem dX6_moved_323 : decode cX6_moved 323 = .ok (.istore 5, 2) := by decide +kernel
theorem dX6_moved_325 : decode cX6_moved 325 = .ok (.aload_n 0, 1) := by decide +kernel
theorem dX6_moved_326 : decode cX6_moved 326 = .ok (.getfield 93, 3) := by decide +kernel
theorem dX6_moved_329 : decode cX6_moved 329 = .ok (.iload 5, 2) := by decide +kernel
theorem dX6_moved_331 : decode cX6_moved 331 = .ok (.aload_n 0, 1) := by decide +kernel
theorem dX6_moved_332 : decode cX6_moved 332 = .ok (.getfield 93, 3) := by decide +kernel
theorem dX6_moved_335 : decode cX6_moved 335 = .ok (.iload_n 1, 1) := by decide +kernel
theorem dX6_moved_336 : decode cX6_moved 336 = .ok (.iaload, 1) := by decide +kernel
theorem dX6_moved_337 : decode cX6_moved 337 = .ok (.iastore, 1) := by decide +kernel
theorem dX6_moved_338 : decode cX6_moved 338 = .ok (.aload_n 0, 1) := by decide +kernel
theorem dX6_moved_339 : decode cX6_moved 339 = .ok (.getfield 102, 3) := by decide +kernel
theorem dX6_moved_342 : decode cX6_moved 342 = .ok (.iload 5, 2) := by decide +kernel
theorem dX6_moved_344 : decode cX6_moved 344 = .ok (.iload_n 3, 1) := by decide +kernel
theorem dX6_moved_345 : decode cX6_moved 345 = .ok (.iastore, 1) := by decide +kernel
theorem dX6_moved_346 : decode cX6_moved 346 = .ok (.aload_n 0, 1) := by decide +kernel
theorem dX6_moved_347 : decode cX6_moved 347 = .ok (.getfield 96, 3) := by decide +kernel
theorem dX6_moved_350 : decode cX6_moved 350 = .ok (.iload 5, 2) := by decide +kernel
theorem dX6_moved_352 : decode cX6_moved 352 = .ok (.iload_n 3, 1) := by decide +kernel
theorem dX6_moved_353 : decode cX6_moved 353 = .ok (.iastore, 1) := by decide +kernel
theorem dX6_moved_354 : decode cX6_moved 354 = .ok (.aload_n 0, 1) := by decide +kernel
theorem dX6_moved_355 : decode cX6_moved 355 = .ok (.iload_n 2, 1) := by decide +kernel
theorem dX6_moved_356 : decode cX6_moved 356 = .ok (.iload 5, 2) := by decide +kernel
theorem dX6_moved_358 : decode cX6_moved 358 = .ok (.invokevirtual 210, 3) := by decide +kernel
theorem dX6_moved_361 : decode cX6_moved 361 = .ok (.return_, 1) := by decide +kernel
theorem dX6_taken_0 : decode cX6_taken 0 = .ok (.bipush 16, 2) := by decide +kernel
theorem dX6_taken_2 : decode cX6_taken 2 = .ok (.aload_n 0, 1) := by decide +kernel
theorem dX6_taken_3 : decode cX6_taken 3 = .ok (.getfield 87, 3) := by decide +kernel
theorem dX6_taken_6 : decode cX6_taken 6 = .ok (.iload_n 1, 1) := by decide +kernel
theorem dX6_taken_7 : decode cX6_taken 7 = .ok (.iaload, 1) := by decide +kernel
theorem dX6_taken_8 : decode cX6_taken 8 = .ok (.imul, 1) := by decide +kernel
theorem dX6_taken_9 : decode cX6_taken 9 = .ok (.aload_n 0, 1) := by decide +kernel
theorem dX6_taken_10 : decode cX6_taken 10 = .ok (.getfield 102, 3) := by decide +kernel
theorem dX6_taken_13 : decode cX6_taken 13 = .ok (.iload_n 1, 1) := by decide +kernel
theorem dX6_taken_14 : decode cX6_taken 14 = .ok (.iaload, 1) := by decide +kernel
theorem dX6_taken_15 : decode cX6_taken 15 = .ok (.iadd, 1) := by decide +kernel
theorem dX6_taken_16 : decode cX6_taken 16 = .ok (.istore_n 2, 1) := by decide +kernel
theorem dX6_taken_17 : decode cX6_taken 17 = .ok (.aload_n 0, 1) := by decide +kernel
theorem dX6_taken_18 : decode cX6_taken 18 = .ok (.getfield 41, 3) := by decide +kernel
theorem dX6_taken_21 : decode cX6_taken 21 = .ok (.iload_n 2, 1) := by decide +kernel
theorem dX6_taken_22 : decode cX6_taken 22 = .ok (.iaload, 1) := by decide +kernel
theorem dX6_taken_23 : decode cX6_taken 23 = .ok (.iconst 2, 1) := by decide +kernel
theorem dX6_taken_24 : decode cX6_taken 24 = .ok (.if_icmp .ne 20, 3) := by decide +kernel
theorem dX6_taken_27 : decode cX6_taken 27 = .ok (.aload_n 0, 1) := by decide +kernel
theorem dX6_taken_28 : decode cX6_taken 28 = .ok (.getfield 44, 3) := by decide +kernel
theorem dX6_taken_31 : decode cX6_taken 31 = .ok (.iload_n 2, 1) := by decide +kernel
theorem dX6_taken_32 : decode cX6_taken 32 = .ok (.iaload, 1) := by decide +kernel
theorem dX6_taken_33 : decode cX6_taken 33 = .ok (.aload_n 0, 1) := by decide +kernel
theorem dX6_taken_34 : decode cX6_taken 34 = .ok (.getfield 93, 3) := by decide +kernel
theorem dX6_taken_37 : decode cX6_taken 37 = .ok (.iload_n 1, 1) := by decide +kernel
theorem dX6_taken_38 : decode cX6_taken 38 = .ok (.iaload, 1) := by decide +kernel
theorem dX6_taken_39 : decode cX6_taken 39 = .ok (.iconst 1, 1) := by decide +kernel
theorem dX6_taken_40 : decode cX6_taken 40 = .ok (.isub, 1) := by decide +kernel
theorem dX6_taken_41 : decode cX6_taken 41 = .ok (.if_icmp .eq 4, 3) := by decide +kernel
theorem dX6_taken_44 : decode cX6_taken 44 = .ok (.return_, 1) := by decide +kernel
theorem dX6_taken_45 : decode cX6_taken 45 = .ok (.aload_n 0, 1) := by decide +kernel
theorem dX6_taken_46 : decode cX6_taken 46 = .ok (.getfield 78, 3) := by decide +kernel
theorem dX6_taken_49 : decode cX6_taken 49 = .ok (.aload_n 0, 1) := by decide +kernel
theorem dX6_taken_50 : decode cX6_taken 50 = .ok (.getfield 87, 3) := by decide +kernel
theorem dX6_taken_53 : decode cX6_taken 53 = .ok (.iload_n 1, 1) := by decide +kernel
theorem dX6_taken_54 : decode cX6_taken 54 = .ok (.iaload, 1) := by decide +kernel
theorem dX6_taken_55 : decode cX6_taken 55 = .ok (.iconst 1, 1) := by decide +kernel
theorem dX6_taken_56 : decode cX6_taken 56 = .ok (.bastore, 1) := by decide +kernel
theorem dX6_taken_57 : decode cX6_taken 57 = .ok (.aload_n 0, 1) := by decide +kernel
theorem dX6_taken_58 : decode cX6_taken 58 = .ok (.getfield 41, 3) := by decide +kernel
theorem dX6_taken_61 : decode cX6_taken 61 = .ok (.iload_n 2, 1) := by decide +kernel
theorem dX6_taken_62 : decode cX6_taken 62 = .ok (.iconst 0, 1) := by decide +kernel
theorem dX6_taken_63 : decode cX6_taken 63 = .ok (.iastore, 1) := by decide +kernel
theorem dX6_taken_64 : decode cX6_taken 64 = .ok (.aload_n 0, 1) := by decide +kernel
theorem dX6_taken_65 : decode cX6_taken 65 = .ok (.getfield 44, 3) := by decide +kernel
theorem dX6_taken_68 : decode cX6_taken 68 = .ok (.iload_n 2, 1) := by decide +kernel
theorem dX6_taken_69 : decode cX6_taken 69 = .ok (.aload_n 0, 1) := by decide +kernel
theorem dX6_taken_70 : decode cX6_taken 70 = .ok (.getfield 93, 3) := by decide +kernel
theorem dX6_taken_73 : decode cX6_taken 73 = .ok (.iload_n 1, 1) := by decide +kernel
theorem dX6_taken_74 : decode cX6_taken 74 = .ok (.iaload, 1) := by decide +kernel
theorem dX6_taken_75 : decode cX6_taken 75 = .ok (.iastore, 1) := by decide +kernel
theorem dX6_taken_76 : decode cX6_taken 76 = .ok (.aload_n 0, 1) := by decide +kernel
theorem dX6_taken_77 : decode cX6_taken 77 = .ok (.getfield 53, 3) := by decide +kernel
theorem dX6_taken_80 : decode cX6_taken 80 = .ok (.iload_n 2, 1) := by decide +kernel
theorem dX6_taken_81 : decode cX6_taken 81 = .ok (.iconst 0, 1) := by decide +kernel
theorem dX6_taken_82 : decode cX6_taken 82 = .ok (.iastore, 1) := by decide +kernel
theorem dX6_taken_83 : decode cX6_taken 83 = .ok (.iconst 0, 1) := by decide +kernel
theorem dX6_taken_84 : decode cX6_taken 84 = .ok (.istore_n 3, 1) := by decide +kernel
theorem dX6_taken_85 : decode cX6_taken 85 = .ok (.iload_n 3, 1) := by decide +kernel
theorem dX6_taken_86 : decode cX6_taken 86 = .ok (.iconst 4, 1) := by decide +kernel
theorem dX6_taken_87 : decode cX6_taken 87 = .ok (.if_icmp .ge 20, 3) := by decide +kernel
theorem dX6_taken_90 : decode cX6_taken 90 = .ok (.aload_n 0, 1) := by decide +kernel
theorem dX6_taken_91 : decode cX6_taken 91 = .ok (.getfield 50, 3) := by decide +kernel
theorem dX6_taken_94 : decode cX6_taken 94 = .ok (.iconst 4, 1) := by decide +kernel
theorem dX6_taken_95 : decode cX6_taken 95 = .ok (.iload_n 2, 1) := by decide +kernel
theorem dX6_taken_96 : decode cX6_taken 96 = .ok (.imul, 1) := by decide +kernel
theorem dX6_taken_97 : decode cX6_taken 97 = .ok (.iload_n 3, 1) := by decide +kernel
theorem dX6_taken_98 : decode cX6_taken 98 = .ok (.iadd, 1) := by decide +kernel
theorem dX6_taken_99 : decode cX6_taken 99 = .ok (.lconst 0, 1) := by decide +kernel
theorem dX6_taken_100 : decode cX6_taken 100 = .ok (.lastore, 1) := by decide +kernel
theorem dX6_taken_101 : decode cX6_taken 101 = .ok (.iinc 3 1, 3) := by decide +kernel
theorem dX6_taken_104 : decode cX6_taken 104 = .ok (.goto (-19), 3) := by decide +kernel
theorem dX6_taken_107 : decode cX6_taken 107 = .ok (.iconst 0, 1) := by decide +kernel
theorem dX6_taken_108 : decode cX6_taken 108 = .ok (.istore_n 3, 1) := by decide +kernel
theorem dX6_taken_109 : decode cX6_taken 109 = .ok (.iload_n 3, 1) := by decide +kernel
theorem dX6_taken_110 : decode cX6_taken 110 = .ok (.bipush 6, 2) := by decide +kernel
theorem dX6_taken_112 : decode cX6_taken 112 = .ok (.if_icmp .ge 33, 3) := by decide +kernel
theorem dX6_taken_115 : decode cX6_taken 115 = .ok (.aload_n 0, 1) := by decide +kernel
theorem dX6_taken_116 : decode cX6_taken 116 = .ok (.getfield 68, 3) := by decide +kernel
theorem dX6_taken_119 : decode cX6_taken 119 = .ok (.bipush 6, 2) := by decide +kernel
theorem dX6_taken_121 : decode cX6_taken 121 = .ok (.iload_n 2, 1) := by decide +kernel
theorem dX6_taken_122 : decode cX6_taken 122 = .ok (.imul, 1) := by decide +kernel
theorem dX6_taken_123 : decode cX6_taken 123 = .ok (.iload_n 3, 1) := by decide +kernel
theorem dX6_taken_124 : decode cX6_taken 124 = .ok (.iadd, 1) := by decide +kernel
theorem dX6_taken_125 : decode cX6_taken 125 = .ok (.iconst 0, 1) := by decide +kernel
theorem dX6_taken_126 : decode cX6_taken 126 = .ok (.iastore, 1) := by decide +kernel
theorem dX6_taken_127 : decode cX6_taken 127 = .ok (.aload_n 0, 1) := by decide +kernel
theorem dX6_taken_128 : decode cX6_taken 128 = .ok (.getfield 71, 3) := by decide +kernel
theorem dX6_taken_131 : decode cX6_taken 131 = .ok (.bipush 6, 2) := by decide +kernel
theorem dX6_taken_133 : decode cX6_taken 133 = .ok (.iload_n 2, 1) := by decide +kernel
theorem dX6_taken_134 : decode cX6_taken 134 = .ok (.imul, 1) := by decide +kernel
theorem dX6_taken_135 : decode cX6_taken 135 = .ok (.iload_n 3, 1) := by decide +kernel
theorem dX6_taken_136 : decode cX6_taken 136 = .ok (.iadd, 1) := by decide +kernel
theorem dX6_taken_137 : decode cX6_taken 137 = .ok (.iconst 0, 1) := by decide +kernel
theorem dX6_taken_138 : decode cX6_taken 138 = .ok (.iastore, 1) := by decide +kernel
theorem dX6_taken_139 : decode cX6_taken 139 = .ok (.iinc 3 1, 3) := by decide +kernel
theorem dX6_taken_142 : decode cX6_taken 142 = .ok (.goto (-33), 3) := by decide +kernel
theorem dX6_taken_145 : decode cX6_taken 145 = .ok (.return_, 1) := by decide +kernel
theorem dX6_deliver_0 : decode cX6_deliver 0 = .ok (.iload_n 1, 1) := by decide +kernel
theorem dX6_deliver_1 : decode cX6_deliver 1 = .ok (.iconst 0, 1) := by decide +kernel
theorem dX6_deliver_2 : decode cX6_deliver 2 = .ok (.aload_n 0, 1) := by decide +kernel
theorem dX6_deliver_3 : decode cX6_deliver 3 = .ok (.getfield 162, 3) := by decide +kernel
theorem dX6_deliver_6 : decode cX6_deliver 6 = .ok (.iconst 1, 1) := by decide +kernel
theorem dX6_deliver_7 : decode cX6_deliver 7 = .ok (.isub, 1) := by decide +kernel
theorem dX6_deliver_8 : decode cX6_deliver 8 = .ok (.invokestatic 152, 3) := by decide +kernel
theorem dX6_deliver_11 : decode cX6_deliver 11 = .ok (.ifCond .ne 5, 3) := by decide +kernel
theorem dX6_deliver_14 : decode cX6_deliver 14 = .ok (.iconst (-1), 1) := by decide +kernel
theorem dX6_deliver_15 : decode cX6_deliver 15 = .ok (.ireturn, 1) := by decide +kernel
theorem dX6_deliver_16 : decode cX6_deliver 16 = .ok (.aload_n 0, 1) := by decide +kernel
theorem dX6_deliver_17 : decode cX6_deliver 17 = .ok (.iload_n 1, 1) := by decide +kernel
theorem dX6_deliver_18 : decode cX6_deliver 18 = .ok (.invokevirtual 228, 3) := by decide +kernel
theorem dX6_deliver_21 : decode cX6_deliver 21 = .ok (.istore_n 2, 1) := by decide +kernel
theorem dX6_deliver_22 : decode cX6_deliver 22 = .ok (.aload_n 0, 1) := by decide +kernel
theorem dX6_deliver_23 : decode cX6_deliver 23 = .ok (.getfield 84, 3) := by decide +kernel
theorem dX6_deliver_26 : decode cX6_deliver 26 = .ok (.iload_n 2, 1) := by decide +kernel
theorem dX6_deliver_27 : decode cX6_deliver 27 = .ok (.iaload, 1) := by decide +kernel
theorem dX6_deliver_28 : decode cX6_deliver 28 = .ok (.istore_n 3, 1) := by decide +kernel
theorem dX6_deliver_29 : decode cX6_deliver 29 = .ok (.iload_n 3, 1) := by decide +kernel
theorem dX6_deliver_30 : decode cX6_deliver 30 = .ok (.iconst 2, 1) := by decide +kernel
theorem dX6_deliver_31 : decode cX6_deliver 31 = .ok (.if_icmp .eq 39, 3) := by decide +kernel
theorem dX6_deliver_34 : decode cX6_deliver 34 = .ok (.aload_n 0, 1) := by decide +kernel
theorem dX6_deliver_35 : decode cX6_deliver 35 = .ok (.getfield 74, 3) := by decide +kernel
theorem dX6_deliver_38 : decode cX6_deliver 38 = .ok (.aload_n 0, 1) := by decide +kernel
theorem dX6_deliver_39 : decode cX6_deliver 39 = .ok (.getfield 87, 3) := by decide +kernel
theorem dX6_deliver_42 : decode cX6_deliver 42 = .ok (.iload_n 2, 1) := by decide +kernel
theorem dX6_deliver_43 : decode cX6_deliver 43 = .ok (.iaload, 1) := by decide +kernel
theorem dX6_deliver_44 : decode cX6_deliver 44 = .ok (.baload, 1) := by decide +kernel
theorem dX6_deliver_45 : decode cX6_deliver 45 = .ok (.ifCond .ne 25, 3) := by decide +kernel
theorem dX6_deliver_48 : decode cX6_deliver 48 = .ok (.aload_n 0, 1) := by decide +kernel
theorem dX6_deliver_49 : decode cX6_deliver 49 = .ok (.getfield 81, 3) := by decide +kernel
theorem dX6_deliver_52 : decode cX6_deliver 52 = .ok (.iload_n 2, 1) := by decide +kernel
theorem dX6_deliver_53 : decode cX6_deliver 53 = .ok (.iconst 0, 1) := by decide +kernel
theorem dX6_deliver_54 : decode cX6_deliver 54 = .ok (.bastore, 1) := by decide +kernel
theorem dX6_deliver_55 : decode cX6_deliver 55 = .ok (.aload_n 0, 1) := by decide +kernel
theorem dX6_deliver_56 : decode cX6_deliver 56 = .ok (.dup, 1) := by decide +kernel
theorem dX6_deliver_57 : decode cX6_deliver 57 = .ok (.getfield 165, 3) := by decide +kernel
theorem dX6_deliver_60 : decode cX6_deliver 60 = .ok (.iconst 1, 1) := by decide +kernel
theorem dX6_deliver_61 : decode cX6_deliver 61 = .ok (.iadd, 1) := by decide +kernel
theorem dX6_deliver_62 : decode cX6_deliver 62 = .ok (.putfield 165, 3) := by decide +kernel
theorem dX6_deliver_65 : decode cX6_deliver 65 = .ok (.bipush 10, 2) := by decide +kernel
theorem dX6_deliver_67 : decode cX6_deliver 67 = .ok (.iload_n 3, 1) := by decide +kernel
theorem dX6_deliver_68 : decode cX6_deliver 68 = .ok (.iadd, 1) := by decide +kernel
theorem dX6_deliver_69 : decode cX6_deliver 69 = .ok (.ireturn, 1) := by decide +kernel
theorem dX6_deliver_70 : decode cX6_deliver 70 = .ok (.iload_n 3, 1) := by decide +kernel
theorem dX6_deliver_71 : decode cX6_deliver 71 = .ok (.tableswitch 61 1 4 #[29, 37, 45, 53], 29) := by decide +kernel
theorem dX6_deliver_100 : decode cX6_deliver 100 = .ok (.aload_n 0, 1) := by decide +kernel
theorem dX6_deliver_101 : decode cX6_deliver 101 = .ok (.iload_n 2, 1) := by decide +kernel
theorem dX6_deliver_102 : decode cX6_deliver 102 = .ok (.invokevirtual 231, 3) := by decide +kernel
theorem dX6_deliver_105 : decode cX6_deliver 105 = .ok (.goto 104, 3) := by decide +kernel
theorem dX6_deliver_108 : decode cX6_deliver 108 = .ok (.aload_n 0, 1) := by decide +kernel
theorem dX6_deliver_109 : decode cX6_deliver 109 = .ok (.iload_n 2, 1) := by decide +kernel
theorem dX6_deliver_110 : decode cX6_deliver 110 = .ok (.invokevirtual 234, 3) := by decide +kernel
theorem dX6_deliver_113 : decode cX6_deliver 113 = .ok (.goto 96, 3) := by decide +kernel
theorem dX6_deliver_116 : decode cX6_deliver 116 = .ok (.aload_n 0, 1) := by decide +kernel
theorem dX6_deliver_117 : decode cX6_deliver 117 = .ok (.iload_n 2, 1) := by decide +kernel
theorem dX6_deliver_118 : decode cX6_deliver 118 = .ok (.invokevirtual 237, 3) := by decide +kernel
theorem dX6_deliver_121 : decode cX6_deliver 121 = .ok (.goto 88, 3) := by decide +kernel
theorem dX6_deliver_124 : decode cX6_deliver 124 = .ok (.aload_n 0, 1) := by decide +kernel
theorem dX6_deliver_125 : decode cX6_deliver 125 = .ok (.iload_n 2, 1) := by decide +kernel
theorem dX6_deliver_126 : decode cX6_deliver 126 = .ok (.invokevirtual 240, 3) := by decide +kernel
theorem dX6_deliver_129 : decode cX6_deliver 129 = .ok (.goto 80, 3) := by decide +kernel
theorem dX6_deliver_132 : decode cX6_deliver 132 = .ok (.iconst 0, 1) := by decide +kernel
theorem dX6_deliver_133 : decode cX6_deliver 133 = .ok (.istore 4, 2) := by decide +kernel
theorem dX6_deliver_135 : decode cX6_deliver 135 = .ok (.iload 4, 2) := by decide +kernel
theorem dX6_deliver_137 : decode cX6_deliver 137 = .ok (.bipush 8, 2) := by decide +kernel
theorem dX6_deliver_139 : decode cX6_deliver 139 = .ok (.if_icmp .ge 70, 3) := by decide +kernel
theorem dX6_deliver_142 : decode cX6_deliver 142 = .ok (.aload_n 0, 1) := by decide +kernel
theorem dX6_deliver_143 : decode cX6_deliver 143 = .ok (.getfield 41, 3) := by decide +kernel
theorem dX6_deliver_146 : decode cX6_deliver 146 = .ok (.bipush 16, 2) := by decide +kernel
theorem dX6_deliver_148 : decode cX6_deliver 148 = .ok (.aload_n 0, 1) := by decide +kernel
theorem dX6_deliver_149 : decode cX6_deliver 149 = .ok (.getfield 87, 3) := by decide +kernel
theorem dX6_deliver_152 : decode cX6_deliver 152 = .ok (.iload_n 2, 1) := by decide +kernel
theorem dX6_deliver_153 : decode cX6_deliver 153 = .ok (.iaload, 1) := by decide +kernel
theorem dX6_deliver_154 : decode cX6_deliver 154 = .ok (.imul, 1) := by decide +kernel
theorem dX6_deliver_155 : decode cX6_deliver 155 = .ok (.iload 4, 2) := by decide +kernel
theorem dX6_deliver_157 : decode cX6_deliver 157 = .ok (.iadd, 1) := by decide +kernel
theorem dX6_deliver_158 : decode cX6_deliver 158 = .ok (.iaload, 1) := by decide +kernel
theorem dX6_deliver_159 : decode cX6_deliver 159 = .ok (.iconst 1, 1) := by decide +kernel
theorem dX6_deliver_160 : decode cX6_deliver 160 = .ok (.if_icmp .ne 43, 3) := by decide +kernel
theorem dX6_deliver_163 : decode cX6_deliver 163 = .ok (.aload_n 0, 1) := by decide +kernel
theorem dX6_deliver_164 : decode cX6_deliver 164 = .ok (.aload_n 0, 1) := by decide +kernel
theorem dX6_deliver_165 : decode cX6_deliver 165 = .ok (.getfield 87, 3) := by decide +kernel
theorem dX6_deliver_168 : decode cX6_deliver 168 = .ok (.iload_n 2, 1) := by decide +kernel
theorem dX6_deliver_169 : decode cX6_deliver 169 = .ok (.iaload, 1) := by decide +kernel
theorem dX6_deliver_170 : decode cX6_deliver 170 = .ok (.bipush 16, 2) := by decide +kernel
theorem dX6_deliver_172 : decode cX6_deliver 172 = .ok (.aload_n 0, 1) := by decide +kernel
theorem dX6_deliver_173 : decode cX6_deliver 173 = .ok (.getfield 87, 3) := by decide +kernel
theorem dX6_deliver_176 : decode cX6_deliver 176 = .ok (.iload_n 2, 1) := by decide +kernel
theorem dX6_deliver_177 : decode cX6_deliver 177 = .ok (.iaload, 1) := by decide +kernel
theorem dX6_deliver_178 : decode cX6_deliver 178 = .ok (.imul, 1) := by decide +kernel
theorem dX6_deliver_179 : decode cX6_deliver 179 = .ok (.iload 4, 2) := by decide +kernel
theorem dX6_deliver_181 : decode cX6_deliver 181 = .ok (.iadd, 1) := by decide +kernel
theorem dX6_deliver_182 : decode cX6_deliver 182 = .ok (.aload_n 0, 1) := by decide +kernel
theorem dX6_deliver_183 : decode cX6_deliver 183 = .ok (.getfield 90, 3) := by decide +kernel
theorem dX6_deliver_186 : decode cX6_deliver 186 = .ok (.iload_n 2, 1) := by decide +kernel
theorem dX6_deliver_187 : decode cX6_deliver 187 = .ok (.iaload, 1) := by decide +kernel
theorem dX6_deliver_188 : decode cX6_deliver 188 = .ok (.aload_n 0, 1) := by decide +kernel
theorem dX6_deliver_189 : decode cX6_deliver 189 = .ok (.getfield 93, 3) := by decide +kernel
theorem dX6_deliver_192 : decode cX6_deliver 192 = .ok (.iload_n 2, 1) := by decide +kernel
theorem dX6_deliver_193 : decode cX6_deliver 193 = .ok (.iaload, 1) := by decide +kernel
theorem dX6_deliver_194 : decode cX6_deliver 194 = .ok (.aload_n 0, 1) := by decide +kernel
theorem dX6_deliver_195 : decode cX6_deliver 195 = .ok (.getfield 96, 3) := by decide +kernel
theorem dX6_deliver_198 : decode cX6_deliver 198 = .ok (.iload_n 2, 1) := by decide +kernel
theorem dX6_deliver_199 : decode cX6_deliver 199 = .ok (.iaload, 1) := by decide +kernel
theorem dX6_deliver_200 : decode cX6_deliver 200 = .ok (.invokevirtual 217, 3) := by decide +kernel
theorem dX6_deliver_203 : decode cX6_deliver 203 = .ok (.iinc 4 1, 3) := by decide +kernel
theorem dX6_deliver_206 : decode cX6_deliver 206 = .ok (.goto (-71), 3) := by decide +kernel
theorem dX6_deliver_209 : decode cX6_deliver 209 = .ok (.aload_n 0, 1) := by decide +kernel
theorem dX6_deliver_210 : decode cX6_deliver 210 = .ok (.getfield 81, 3) := by decide +kernel
theorem dX6_deliver_213 : decode cX6_deliver 213 = .ok (.iload_n 2, 1) := by decide +kernel
theorem dX6_deliver_214 : decode cX6_deliver 214 = .ok (.iconst 0, 1) := by decide +kernel
theorem dX6_deliver_215 : decode cX6_deliver 215 = .ok (.bastore, 1) := by decide +kernel
theorem dX6_deliver_216 : decode cX6_deliver 216 = .ok (.iload_n 3, 1) := by decide +kernel
theorem dX6_deliver_217 : decode cX6_deliver 217 = .ok (.ireturn, 1) := by decide +kernel
theorem dX6_drop_0 : decode cX6_drop 0 = .ok (.iload_n 1, 1) := by decide +kernel
theorem dX6_drop_1 : decode cX6_drop 1 = .ok (.iconst 0, 1) := by decide +kernel
theorem dX6_drop_2 : decode cX6_drop 2 = .ok (.aload_n 0, 1) := by decide +kernel
theorem dX6_drop_3 : decode cX6_drop 3 = .ok (.getfield 162, 3) := by decide +kernel
theorem dX6_drop_6 : decode cX6_drop 6 = .ok (.iconst 1, 1) := by decide +kernel
theorem dX6_drop_7 : decode cX6_drop 7 = .ok (.isub, 1) := by decide +kernel
theorem dX6_drop_8 : decode cX6_drop 8 = .ok (.invokestatic 152, 3) := by decide +kernel
theorem dX6_drop_11 : decode cX6_drop 11 = .ok (.ifCond .ne 5, 3) := by decide +kernel
theorem dX6_drop_14 : decode cX6_drop 14 = .ok (.iconst (-1), 1) := by decide +kernel
theorem dX6_drop_15 : decode cX6_drop 15 = .ok (.ireturn, 1) := by decide +kernel
theorem dX6_drop_16 : decode cX6_drop 16 = .ok (.aload_n 0, 1) := by decide +kernel
theorem dX6_drop_17 : decode cX6_drop 17 = .ok (.iload_n 1, 1) := by decide +kernel
theorem dX6_drop_18 : decode cX6_drop 18 = .ok (.invokevirtual 228, 3) := by decide +kernel
theorem dX6_drop_21 : decode cX6_drop 21 = .ok (.istore_n 2, 1) := by decide +kernel
theorem dX6_drop_22 : decode cX6_drop 22 = .ok (.aload_n 0, 1) := by decide +kernel
theorem dX6_drop_23 : decode cX6_drop 23 = .ok (.getfield 81, 3) := by decide +kernel
theorem dX6_drop_26 : decode cX6_drop 26 = .ok (.iload_n 2, 1) := by decide +kernel
theorem dX6_drop_27 : decode cX6_drop 27 = .ok (.iconst 0, 1) := by decide +kernel
theorem dX6_drop_28 : decode cX6_drop 28 = .ok (.bastore, 1) := by decide +kernel
theorem dX6_drop_29 : decode cX6_drop 29 = .ok (.aload_n 0, 1) := by decide +kernel
theorem dX6_drop_30 : decode cX6_drop 30 = .ok (.dup, 1) := by decide +kernel
theorem dX6_drop_31 : decode cX6_drop 31 = .ok (.getfield 165, 3) := by decide +kernel
theorem dX6_drop_34 : decode cX6_drop 34 = .ok (.iconst 1, 1) := by decide +kernel
theorem dX6_drop_35 : decode cX6_drop 35 = .ok (.iadd, 1) := by decide +kernel
theorem dX6_drop_36 : decode cX6_drop 36 = .ok (.putfield 165, 3) := by decide +kernel
theorem dX6_drop_39 : decode cX6_drop 39 = .ok (.aload_n 0, 1) := by decide +kernel
theorem dX6_drop_40 : decode cX6_drop 40 = .ok (.getfield 84, 3) := by decide +kernel
theorem dX6_drop_43 : decode cX6_drop 43 = .ok (.iload_n 2, 1) := by decide +kernel
theorem dX6_drop_44 : decode cX6_drop 44 = .ok (.iaload, 1) := by decide +kernel
theorem dX6_drop_45 : decode cX6_drop 45 = .ok (.ireturn, 1) := by decide +kernel
theorem dX6_twin_0 : decode cX6_twin 0 = .ok (.iload_n 1, 1) := by decide +kernel
theorem dX6_twin_1 : decode cX6_twin 1 = .ok (.iconst 0, 1) := by decide +kernel
theorem dX6_twin_2 : decode cX6_twin 2 = .ok (.aload_n 0, 1) := by decide +kernel
theorem dX6_twin_3 : decode cX6_twin 3 = .ok (.getfield 162, 3) := by decide +kernel
theorem dX6_twin_6 : decode cX6_twin 6 = .ok (.iconst 1, 1) := by decide +kernel
theorem dX6_twin_7 : decode cX6_twin 7 = .ok (.isub, 1) := by decide +kernel
theorem dX6_twin_8 : decode cX6_twin 8 = .ok (.invokestatic 152, 3) := by decide +kernel
theorem dX6_twin_11 : decode cX6_twin 11 = .ok (.ifCond .ne 5, 3) := by decide +kernel
theorem dX6_twin_14 : decode cX6_twin 14 = .ok (.iconst (-1), 1) := by decide +kernel
theorem dX6_twin_15 : decode cX6_twin 15 = .ok (.ireturn, 1) := by decide +kernel
theorem dX6_twin_16 : decode cX6_twin 16 = .ok (.aload_n 0, 1) := by decide +kernel
theorem dX6_twin_17 : decode cX6_twin 17 = .ok (.getfield 162, 3) := by decide +kernel
theorem dX6_twin_20 : decode cX6_twin 20 = .ok (.sipush 400, 3) := by decide +kernel
theorem dX6_twin_23 : decode cX6_twin 23 = .ok (.if_icmp .ne 6, 3) := by decide +kernel
theorem dX6_twin_26 : decode cX6_twin 26 = .ok (.bipush (-2), 2) := by decide +kernel
theorem dX6_twin_28 : decode cX6_twin 28 = .ok (.ireturn, 1) := by decide +kernel
theorem dX6_twin_29 : decode cX6_twin 29 = .ok (.aload_n 0, 1) := by decide +kernel
theorem dX6_twin_30 : decode cX6_twin 30 = .ok (.getfield 136, 3) := by decide +kernel
theorem dX6_twin_33 : decode cX6_twin 33 = .ok (.iload_n 1, 1) := by decide +kernel
theorem dX6_twin_34 : decode cX6_twin 34 = .ok (.iaload, 1) := by decide +kernel
theorem dX6_twin_35 : decode cX6_twin 35 = .ok (.istore_n 2, 1) := by decide +kernel
theorem dX6_twin_36 : decode cX6_twin 36 = .ok (.aload_n 0, 1) := by decide +kernel
theorem dX6_twin_37 : decode cX6_twin 37 = .ok (.aload_n 0, 1) := by decide +kernel
theorem dX6_twin_38 : decode cX6_twin 38 = .ok (.getfield 84, 3) := by decide +kernel
theorem dX6_twin_41 : decode cX6_twin 41 = .ok (.iload_n 2, 1) := by decide +kernel
theorem dX6_twin_42 : decode cX6_twin 42 = .ok (.iaload, 1) := by decide +kernel
theorem dX6_twin_43 : decode cX6_twin 43 = .ok (.aload_n 0, 1) := by decide +kernel
theorem dX6_twin_44 : decode cX6_twin 44 = .ok (.getfield 87, 3) := by decide +kernel
theorem dX6_twin_47 : decode cX6_twin 47 = .ok (.iload_n 2, 1) := by decide +kernel
theorem dX6_twin_48 : decode cX6_twin 48 = .ok (.iaload, 1) := by decide +kernel
theorem dX6_twin_49 : decode cX6_twin 49 = .ok (.aload_n 0, 1) := by decide +kernel
theorem dX6_twin_50 : decode cX6_twin 50 = .ok (.getfield 90, 3) := by decide +kernel
theorem dX6_twin_53 : decode cX6_twin 53 = .ok (.iload_n 2, 1) := by decide +kernel
theorem dX6_twin_54 : decode cX6_twin 54 = .ok (.iaload, 1) := by decide +kernel
theorem dX6_twin_55 : decode cX6_twin 55 = .ok (.invokevirtual 182, 3) := by decide +kernel
theorem dX6_twin_58 : decode cX6_twin 58 = .ok (.istore_n 3, 1) := by decide +kernel
theorem dX6_twin_59 : decode cX6_twin 59 = .ok (.aload_n 0, 1) := by decide +kernel
theorem dX6_twin_60 : decode cX6_twin 60 = .ok (.getfield 93, 3) := by decide +kernel
theorem dX6_twin_63 : decode cX6_twin 63 = .ok (.iload_n 3, 1) := by decide +kernel
theorem dX6_twin_64 : decode cX6_twin 64 = .ok (.aload_n 0, 1) := by decide +kernel
theorem dX6_twin_65 : decode cX6_twin 65 = .ok (.getfield 93, 3) := by decide +kernel
theorem dX6_twin_68 : decode cX6_twin 68 = .ok (.iload_n 2, 1) := by decide +kernel
theorem dX6_twin_69 : decode cX6_twin 69 = .ok (.iaload, 1) := by decide +kernel
theorem dX6_twin_70 : decode cX6_twin 70 = .ok (.iastore, 1) := by decide +kernel
theorem dX6_twin_71 : decode cX6_twin 71 = .ok (.aload_n 0, 1) := by decide +kernel
theorem dX6_twin_72 : decode cX6_twin 72 = .ok (.getfield 96, 3) := by decide +kernel
theorem dX6_twin_75 : decode cX6_twin 75 = .ok (.iload_n 3, 1) := by decide +kernel
theorem dX6_twin_76 : decode cX6_twin 76 = .ok (.aload_n 0, 1) := by decide +kernel
theorem dX6_twin_77 : decode cX6_twin 77 = .ok (.getfield 96, 3) := by decide +kernel
theorem dX6_twin_80 : decode cX6_twin 80 = .ok (.iload_n 2, 1) := by decide +kernel
theorem dX6_twin_81 : decode cX6_twin 81 = .ok (.iaload, 1) := by decide +kernel
theorem dX6_twin_82 : decode cX6_twin 82 = .ok (.iastore, 1) := by decide +kernel
theorem dX6_twin_83 : decode cX6_twin 83 = .ok (.aload_n 0, 1) := by decide +kernel
theorem dX6_twin_84 : decode cX6_twin 84 = .ok (.getfield 99, 3) := by decide +kernel
theorem dX6_twin_87 : decode cX6_twin 87 = .ok (.iload_n 3, 1) := by decide +kernel
theorem dX6_twin_88 : decode cX6_twin 88 = .ok (.aload_n 0, 1) := by decide +kernel
theorem dX6_twin_89 : decode cX6_twin 89 = .ok (.getfield 99, 3) := by decide +kernel
theorem dX6_twin_92 : decode cX6_twin 92 = .ok (.iload_n 2, 1) := by decide +kernel
theorem dX6_twin_93 : decode cX6_twin 93 = .ok (.iaload, 1) := by decide +kernel
theorem dX6_twin_94 : decode cX6_twin 94 = .ok (.iastore, 1) := by decide +kernel
theorem dX6_twin_95 : decode cX6_twin 95 = .ok (.aload_n 0, 1) := by decide +kernel
theorem dX6_twin_96 : decode cX6_twin 96 = .ok (.getfield 102, 3) := by decide +kernel
theorem dX6_twin_99 : decode cX6_twin 99 = .ok (.iload_n 3, 1) := by decide +kernel
theorem dX6_twin_100 : decode cX6_twin 100 = .ok (.aload_n 0, 1) := by decide +kernel
theorem dX6_twin_101 : decode cX6_twin 101 = .ok (.getfield 102, 3) := by decide +kernel
theorem dX6_twin_104 : decode cX6_twin 104 = .ok (.iload_n 2, 1) := by decide +kernel
theorem dX6_twin_105 : decode cX6_twin 105 = .ok (.iaload, 1) := by decide +kernel
theorem dX6_twin_106 : decode cX6_twin 106 = .ok (.iastore, 1) := by decide +kernel
theorem dX6_twin_107 : decode cX6_twin 107 = .ok (.aload_n 0, 1) := by decide +kernel
theorem dX6_twin_108 : decode cX6_twin 108 = .ok (.getfield 105, 3) := by decide +kernel
theorem dX6_twin_111 : decode cX6_twin 111 = .ok (.iload_n 3, 1) := by decide +kernel
theorem dX6_twin_112 : decode cX6_twin 112 = .ok (.aload_n 0, 1) := by decide +kernel
theorem dX6_twin_113 : decode cX6_twin 113 = .ok (.getfield 105, 3) := by decide +kernel
theorem dX6_twin_116 : decode cX6_twin 116 = .ok (.iload_n 2, 1) := by decide +kernel
theorem dX6_twin_117 : decode cX6_twin 117 = .ok (.iaload, 1) := by decide +kernel
theorem dX6_twin_118 : decode cX6_twin 118 = .ok (.iastore, 1) := by decide +kernel
theorem dX6_twin_119 : decode cX6_twin 119 = .ok (.aload_n 0, 1) := by decide +kernel
theorem dX6_twin_120 : decode cX6_twin 120 = .ok (.getfield 108, 3) := by decide +kernel
theorem dX6_twin_123 : decode cX6_twin 123 = .ok (.iload_n 3, 1) := by decide +kernel
theorem dX6_twin_124 : decode cX6_twin 124 = .ok (.aload_n 0, 1) := by decide +kernel
theorem dX6_twin_125 : decode cX6_twin 125 = .ok (.getfield 108, 3) := by decide +kernel
theorem dX6_twin_128 : decode cX6_twin 128 = .ok (.iload_n 2, 1) := by decide +kernel
theorem dX6_twin_129 : decode cX6_twin 129 = .ok (.laload, 1) := by decide +kernel
theorem dX6_twin_130 : decode cX6_twin 130 = .ok (.lastore, 1) := by decide +kernel
theorem dX6_twin_131 : decode cX6_twin 131 = .ok (.aload_n 0, 1) := by decide +kernel
theorem dX6_twin_132 : decode cX6_twin 132 = .ok (.getfield 111, 3) := by decide +kernel
theorem dX6_twin_135 : decode cX6_twin 135 = .ok (.iload_n 3, 1) := by decide +kernel
theorem dX6_twin_136 : decode cX6_twin 136 = .ok (.aload_n 0, 1) := by decide +kernel
theorem dX6_twin_137 : decode cX6_twin 137 = .ok (.getfield 111, 3) := by decide +kernel
theorem dX6_twin_140 : decode cX6_twin 140 = .ok (.iload_n 2, 1) := by decide +kernel
theorem dX6_twin_141 : decode cX6_twin 141 = .ok (.laload, 1) := by decide +kernel
theorem dX6_twin_142 : decode cX6_twin 142 = .ok (.lastore, 1) := by decide +kernel
theorem dX6_twin_143 : decode cX6_twin 143 = .ok (.aload_n 0, 1) := by decide +kernel
theorem dX6_twin_144 : decode cX6_twin 144 = .ok (.getfield 84, 3) := by decide +kernel
theorem dX6_twin_147 : decode cX6_twin 147 = .ok (.iload_n 2, 1) := by decide +kernel
theorem dX6_twin_148 : decode cX6_twin 148 = .ok (.iaload, 1) := by decide +kernel
theorem dX6_twin_149 : decode cX6_twin 149 = .ok (.iconst 3, 1) := by decide +kernel
theorem dX6_twin_150 : decode cX6_twin 150 = .ok (.if_icmp .ne 216, 3) := by decide +kernel
theorem dX6_twin_153 : decode cX6_twin 153 = .ok (.iconst 0, 1) := by decide +kernel
theorem dX6_twin_154 : decode cX6_twin 154 = .ok (.istore 4, 2) := by decide +kernel
theorem dX6_twin_156 : decode cX6_twin 156 = .ok (.iload 4, 2) := by decide +kernel
theorem dX6_twin_158 : decode cX6_twin 158 = .ok (.iconst 4, 1) := by decide +kernel
theorem dX6_twin_159 : decode cX6_twin 159 = .ok (.if_icmp .ge 31, 3) := by decide +kernel
theorem dX6_twin_162 : decode cX6_twin 162 = .ok (.aload_n 0, 1) := by decide +kernel
theorem dX6_twin_163 : decode cX6_twin 163 = .ok (.getfield 114, 3) := by decide +kernel
theorem dX6_twin_166 : decode cX6_twin 166 = .ok (.iconst 4, 1) := by decide +kernel
theorem dX6_twin_167 : decode cX6_twin 167 = .ok (.iload_n 3, 1) := by decide +kernel
theorem dX6_twin_168 : decode cX6_twin 168 = .ok (.imul, 1) := by decide +kernel
theorem dX6_twin_169 : decode cX6_twin 169 = .ok (.iload 4, 2) := by decide +kernel
theorem dX6_twin_171 : decode cX6_twin 171 = .ok (.iadd, 1) := by decide +kernel
theorem dX6_twin_172 : decode cX6_twin 172 = .ok (.aload_n 0, 1) := by decide +kernel
theorem dX6_twin_173 : decode cX6_twin 173 = .ok (.getfield 114, 3) := by decide +kernel
theorem dX6_twin_176 : decode cX6_twin 176 = .ok (.iconst 4, 1) := by decide +kernel
theorem dX6_twin_177 : decode cX6_twin 177 = .ok (.iload_n 2, 1) := by decide +kernel
theorem dX6_twin_178 : decode cX6_twin 178 = .ok (.imul, 1) := by decide +kernel
theorem dX6_twin_179 : decode cX6_twin 179 = .ok (.iload 4, 2) := by decide +kernel
theorem dX6_twin_181 : decode cX6_twin 181 = .ok (.iadd, 1) := by decide +kernel
theorem dX6_twin_182 : decode cX6_twin 182 = .ok (.laload, 1) := by decide +kernel
theorem dX6_twin_183 : decode cX6_twin 183 = .ok (.lastore, 1) := by decide +kernel
theorem dX6_twin_184 : decode cX6_twin 184 = .ok (.iinc 4 1, 3) := by decide +kernel
theorem dX6_twin_187 : decode cX6_twin 187 = .ok (.goto (-31), 3) := by decide +kernel
theorem dX6_twin_190 : decode cX6_twin 190 = .ok (.iconst 0, 1) := by decide +kernel
theorem dX6_twin_191 : decode cX6_twin 191 = .ok (.istore 4, 2) := by decide +kernel
theorem dX6_twin_193 : decode cX6_twin 193 = .ok (.iload 4, 2) := by decide +kernel
theorem dX6_twin_195 : decode cX6_twin 195 = .ok (.bipush 12, 2) := by decide +kernel
theorem dX6_twin_197 : decode cX6_twin 197 = .ok (.if_icmp .ge 105, 3) := by decide +kernel
theorem dX6_twin_200 : decode cX6_twin 200 = .ok (.aload_n 0, 1) := by decide +kernel
theorem dX6_twin_201 : decode cX6_twin 201 = .ok (.getfield 118, 3) := by decide +kernel
theorem dX6_twin_204 : decode cX6_twin 204 = .ok (.bipush 12, 2) := by decide +kernel
theorem dX6_twin_206 : decode cX6_twin 206 = .ok (.iload_n 3, 1) := by decide +kernel
theorem dX6_twin_207 : decode cX6_twin 207 = .ok (.imul, 1) := by decide +kernel
theorem dX6_twin_208 : decode cX6_twin 208 = .ok (.iload 4, 2) := by decide +kernel
theorem dX6_twin_210 : decode cX6_twin 210 = .ok (.iadd, 1) := by decide +kernel
theorem dX6_twin_211 : decode cX6_twin 211 = .ok (.aload_n 0, 1) := by decide +kernel
theorem dX6_twin_212 : decode cX6_twin 212 = .ok (.getfield 118, 3) := by decide +kernel
theorem dX6_twin_215 : decode cX6_twin 215 = .ok (.bipush 12, 2) := by decide +kernel
theorem dX6_twin_217 : decode cX6_twin 217 = .ok (.iload_n 2, 1) := by decide +kernel
theorem dX6_twin_218 : decode cX6_twin 218 = .ok (.imul, 1) := by decide +kernel
theorem dX6_twin_219 : decode cX6_twin 219 = .ok (.iload 4, 2) := by decide +kernel
theorem dX6_twin_221 : decode cX6_twin 221 = .ok (.iadd, 1) := by decide +kernel
theorem dX6_twin_222 : decode cX6_twin 222 = .ok (.iaload, 1) := by decide +kernel
theorem dX6_twin_223 : decode cX6_twin 223 = .ok (.iastore, 1) := by decide +kernel
theorem dX6_twin_224 : decode cX6_twin 224 = .ok (.aload_n 0, 1) := by decide +kernel
theorem dX6_twin_225 : decode cX6_twin 225 = .ok (.getfield 121, 3) := by decide +kernel
theorem dX6_twin_228 : decode cX6_twin 228 = .ok (.bipush 12, 2) := by decide +kernel
theorem dX6_twin_230 : decode cX6_twin 230 = .ok (.iload_n 3, 1) := by decide +kernel
theorem dX6_twin_231 : decode cX6_twin 231 = .ok (.imul, 1) := by decide +kernel
theorem dX6_twin_232 : decode cX6_twin 232 = .ok (.iload 4, 2) := by decide +kernel
theorem dX6_twin_234 : decode cX6_twin 234 = .ok (.iadd, 1) := by decide +kernel
theorem dX6_twin_235 : decode cX6_twin 235 = .ok (.aload_n 0, 1) := by decide +kernel
theorem dX6_twin_236 : decode cX6_twin 236 = .ok (.getfield 121, 3) := by decide +kernel
theorem dX6_twin_239 : decode cX6_twin 239 = .ok (.bipush 12, 2) := by decide +kernel
theorem dX6_twin_241 : decode cX6_twin 241 = .ok (.iload_n 2, 1) := by decide +kernel
theorem dX6_twin_242 : decode cX6_twin 242 = .ok (.imul, 1) := by decide +kernel
theorem dX6_twin_243 : decode cX6_twin 243 = .ok (.iload 4, 2) := by decide +kernel
theorem dX6_twin_245 : decode cX6_twin 245 = .ok (.iadd, 1) := by decide +kernel
theorem dX6_twin_246 : decode cX6_twin 246 = .ok (.iaload, 1) := by decide +kernel
theorem dX6_twin_247 : decode cX6_twin 247 = .ok (.iastore, 1) := by decide +kernel
theorem dX6_twin_248 : decode cX6_twin 248 = .ok (.aload_n 0, 1) := by decide +kernel
theorem dX6_twin_249 : decode cX6_twin 249 = .ok (.getfield 124, 3) := by decide +kernel
theorem dX6_twin_252 : decode cX6_twin 252 = .ok (.bipush 12, 2) := by decide +kernel
theorem dX6_twin_254 : decode cX6_twin 254 = .ok (.iload_n 3, 1) := by decide +kernel
theorem dX6_twin_255 : decode cX6_twin 255 = .ok (.imul, 1) := by decide +kernel
theorem dX6_twin_256 : decode cX6_twin 256 = .ok (.iload 4, 2) := by decide +kernel
theorem dX6_twin_258 : decode cX6_twin 258 = .ok (.iadd, 1) := by decide +kernel
theorem dX6_twin_259 : decode cX6_twin 259 = .ok (.aload_n 0, 1) := by decide +kernel
theorem dX6_twin_260 : decode cX6_twin 260 = .ok (.getfield 124, 3) := by decide +kernel
theorem dX6_twin_263 : decode cX6_twin 263 = .ok (.bipush 12, 2) := by decide +kernel
theorem dX6_twin_265 : decode cX6_twin 265 = .ok (.iload_n 2, 1) := by decide +kernel
theorem dX6_twin_266 : decode cX6_twin 266 = .ok (.imul, 1) := by decide +kernel
theorem dX6_twin_267 : decode cX6_twin 267 = .ok (.iload 4, 2) := by decide +kernel
theorem dX6_twin_269 : decode cX6_twin 269 = .ok (.iadd, 1) := by decide +kernel
theorem dX6_twin_270 : decode cX6_twin 270 = .ok (.iaload, 1) := by decide +kernel
theorem dX6_twin_271 : decode cX6_twin 271 = .ok (.iastore, 1) := by decide +kernel
theorem dX6_twin_272 : decode cX6_twin 272 = .ok (.aload_n 0, 1) := by decide +kernel
theorem dX6_twin_273 : decode cX6_twin 273 = .ok (.getfield 127, 3) := by decide +kernel
theorem dX6_twin_276 : decode cX6_twin 276 = .ok (.bipush 12, 2) := by decide +kernel
theorem dX6_twin_278 : decode cX6_twin 278 = .ok (.iload_n 3, 1) := by decide +kernel
theorem dX6_twin_279 : decode cX6_twin 279 = .ok (.imul, 1) := by decide +kernel
theorem dX6_twin_280 : decode cX6_twin 280 = .ok (.iload 4, 2) := by decide +kernel
theorem dX6_twin_282 : decode cX6_twin 282 = .ok (.iadd, 1) := by decide +kernel
theorem dX6_twin_283 : decode cX6_twin 283 = .ok (.aload_n 0, 1) := by decide +kernel
theorem dX6_twin_284 : decode cX6_twin 284 = .ok (.getfield 127, 3) := by decide +kernel
theorem dX6_twin_287 : decode cX6_twin 287 = .ok (.bipush 12, 2) := by decide +kernel
theorem dX6_twin_289 : decode cX6_twin 289 = .ok (.iload_n 2, 1) := by decide +kernel
theorem dX6_twin_290 : decode cX6_twin 290 = .ok (.imul, 1) := by decide +kernel
theorem dX6_twin_291 : decode cX6_twin 291 = .ok (.iload 4, 2) := by decide +kernel
theorem dX6_twin_293 : decode cX6_twin 293 = .ok (.iadd, 1) := by decide +kernel
theorem dX6_twin_294 : decode cX6_twin 294 = .ok (.laload, 1) := by decide +kernel
theorem dX6_twin_295 : decode cX6_twin 295 = .ok (.lastore, 1) := by decide +kernel
theorem dX6_twin_296 : decode cX6_twin 296 = .ok (.iinc 4 1, 3) := by decide +kernel
theorem dX6_twin_299 : decode cX6_twin 299 = .ok (.goto (-106), 3) := by decide +kernel
theorem dX6_twin_302 : decode cX6_twin 302 = .ok (.iconst 0, 1) := by decide +kernel
theorem dX6_twin_303 : decode cX6_twin 303 = .ok (.istore 4, 2) := by decide +kernel
theorem dX6_twin_305 : decode cX6_twin 305 = .ok (.iload 4, 2) := by decide +kernel
theorem dX6_twin_307 : decode cX6_twin 307 = .ok (.bipush 6, 2) := by decide +kernel
theorem dX6_twin_309 : decode cX6_twin 309 = .ok (.if_icmp .ge 57, 3) := by decide +kernel
theorem dX6_twin_312 : decode cX6_twin 312 = .ok (.aload_n 0, 1) := by decide +kernel
theorem dX6_twin_313 : decode cX6_twin 313 = .ok (.getfield 130, 3) := by decide +kernel
theorem dX6_twin_316 : decode cX6_twin 316 = .ok (.bipush 6, 2) := by decide +kernel
theorem dX6_twin_318 : decode cX6_twin 318 = .ok (.iload_n 3, 1) := by decide +kernel
theorem dX6_twin_319 : decode cX6_twin 319 = .ok (.imul, 1) := by decide +kernel
theorem dX6_twin_320 : decode cX6_twin 320 = .ok (.iload 4, 2) := by decide +kernel
theorem dX6_twin_322 : decode cX6_twin 322 = .ok (.iadd, 1) := by decide +kernel
theorem dX6_twin_323 : decode cX6_twin 323 = .ok (.aload_n 0, 1) := by decide +kernel
theorem dX6_twin_324 : decode cX6_twin 324 = .ok (.getfield 130, 3) := by decide +kernel
theorem dX6_twin_327 : decode cX6_twin 327 = .ok (.bipush 6, 2) := by decide +kernel
theorem dX6_twin_329 : decode cX6_twin 329 = .ok (.iload_n 2, 1) := by decide +kernel
theorem dX6_twin_330 : decode cX6_twin 330 = .ok (.imul, 1) := by decide +kernel
theorem dX6_twin_331 : decode cX6_twin 331 = .ok (.iload 4, 2) := by decide +kernel
theorem dX6_twin_333 : decode cX6_twin 333 = .ok (.iadd, 1) := by decide +kernel
theorem dX6_twin_334 : decode cX6_twin 334 = .ok (.iaload, 1) := by decide +kernel
theorem dX6_twin_335 : decode cX6_twin 335 = .ok (.iastore, 1) := by decide +kernel
theorem dX6_twin_336 : decode cX6_twin 336 = .ok (.aload_n 0, 1) := by decide +kernel
theorem dX6_twin_337 : decode cX6_twin 337 = .ok (.getfield 133, 3) := by decide +kernel
theorem dX6_twin_340 : decode cX6_twin 340 = .ok (.bipush 6, 2) := by decide +kernel
theorem dX6_twin_342 : decode cX6_twin 342 = .ok (.iload_n 3, 1) := by decide +kernel
theorem dX6_twin_343 : decode cX6_twin 343 = .ok (.imul, 1) := by decide +kernel
theorem dX6_twin_344 : decode cX6_twin 344 = .ok (.iload 4, 2) := by decide +kernel
theorem dX6_twin_346 : decode cX6_twin 346 = .ok (.iadd, 1) := by decide +kernel
theorem dX6_twin_347 : decode cX6_twin 347 = .ok (.aload_n 0, 1) := by decide +kernel
theorem dX6_twin_348 : decode cX6_twin 348 = .ok (.getfield 133, 3) := by decide +kernel
theorem dX6_twin_351 : decode cX6_twin 351 = .ok (.bipush 6, 2) := by decide +kernel
theorem dX6_twin_353 : decode cX6_twin 353 = .ok (.iload_n 2, 1) := by decide +kernel
theorem dX6_twin_354 : decode cX6_twin 354 = .ok (.imul, 1) := by decide +kernel
theorem dX6_twin_355 : decode cX6_twin 355 = .ok (.iload 4, 2) := by decide +kernel
theorem dX6_twin_357 : decode cX6_twin 357 = .ok (.iadd, 1) := by decide +kernel
theorem dX6_twin_358 : decode cX6_twin 358 = .ok (.iaload, 1) := by decide +kernel
theorem dX6_twin_359 : decode cX6_twin 359 = .ok (.iastore, 1) := by decide +kernel
theorem dX6_twin_360 : decode cX6_twin 360 = .ok (.iinc 4 1, 3) := by decide +kernel
theorem dX6_twin_363 : decode cX6_twin 363 = .ok (.goto (-58), 3) := by decide +kernel
theorem dX6_twin_366 : decode cX6_twin 366 = .ok (.aload_n 0, 1) := by decide +kernel
theorem dX6_twin_367 : decode cX6_twin 367 = .ok (.iload_n 3, 1) := by decide +kernel
theorem dX6_twin_368 : decode cX6_twin 368 = .ok (.invokevirtual 168, 3) := by decide +kernel
theorem dX6_twin_371 : decode cX6_twin 371 = .ok (.aload_n 0, 1) := by decide +kernel
theorem dX6_twin_372 : decode cX6_twin 372 = .ok (.getfield 84, 3) := by decide +kernel
theorem dX6_twin_375 : decode cX6_twin 375 = .ok (.iload_n 2, 1) := by decide +kernel
theorem dX6_twin_376 : decode cX6_twin 376 = .ok (.iaload, 1) := by decide +kernel
theorem dX6_twin_377 : decode cX6_twin 377 = .ok (.ireturn, 1) := by decide +kernel
theorem dX6_copy_0 : decode cX6_copy 0 = .ok (.iconst 0, 1) := by decide +kernel
theorem dX6_copy_1 : decode cX6_copy 1 = .ok (.istore_n 3, 1) := by decide +kernel
theorem dX6_copy_2 : decode cX6_copy 2 = .ok (.iload_n 3, 1) := by decide +kernel
theorem dX6_copy_3 : decode cX6_copy 3 = .ok (.bipush 8, 2) := by decide +kernel
theorem dX6_copy_5 : decode cX6_copy 5 = .ok (.if_icmp .ge 308, 3) := by decide +kernel
theorem dX6_copy_8 : decode cX6_copy 8 = .ok (.bipush 8, 2) := by decide +kernel
theorem dX6_copy_10 : decode cX6_copy 10 = .ok (.iload_n 1, 1) := by decide +kernel
theorem dX6_copy_11 : decode cX6_copy 11 = .ok (.imul, 1) := by decide +kernel
theorem dX6_copy_12 : decode cX6_copy 12 = .ok (.iload_n 3, 1) := by decide +kernel
theorem dX6_copy_13 : decode cX6_copy 13 = .ok (.iadd, 1) := by decide +kernel
theorem dX6_copy_14 : decode cX6_copy 14 = .ok (.istore 4, 2) := by decide +kernel
theorem dX6_copy_16 : decode cX6_copy 16 = .ok (.bipush 8, 2) := by decide +kernel
theorem dX6_copy_18 : decode cX6_copy 18 = .ok (.iload_n 2, 1) := by decide +kernel
theorem dX6_copy_19 : decode cX6_copy 19 = .ok (.imul, 1) := by decide +kernel
theorem dX6_copy_20 : decode cX6_copy 20 = .ok (.iload_n 3, 1) := by decide +kernel
theorem dX6_copy_21 : decode cX6_copy 21 = .ok (.iadd, 1) := by decide +kernel
theorem dX6_copy_22 : decode cX6_copy 22 = .ok (.istore 5, 2) := by decide +kernel
theorem dX6_copy_24 : decode cX6_copy 24 = .ok (.aload_n 0, 1) := by decide +kernel
theorem dX6_copy_25 : decode cX6_copy 25 = .ok (.getfield 41, 3) := by decide +kernel
theorem dX6_copy_28 : decode cX6_copy 28 = .ok (.iload 5, 2) := by decide +kernel
theorem dX6_copy_30 : decode cX6_copy 30 = .ok (.aload_n 0, 1) := by decide +kernel
theorem dX6_copy_31 : decode cX6_copy 31 = .ok (.getfield 41, 3) := by decide +kernel
theorem dX6_copy_34 : decode cX6_copy 34 = .ok (.iload 4, 2) := by decide +kernel
theorem dX6_copy_36 : decode cX6_copy 36 = .ok (.iaload, 1) := by decide +kernel
theorem dX6_copy_37 : decode cX6_copy 37 = .ok (.iastore, 1) := by decide +kernel
theorem dX6_copy_38 : decode cX6_copy 38 = .ok (.aload_n 0, 1) := by decide +kernel
theorem dX6_copy_39 : decode cX6_copy 39 = .ok (.getfield 44, 3) := by decide +kernel
theorem dX6_copy_42 : decode cX6_copy 42 = .ok (.iload 5, 2) := by decide +kernel
theorem dX6_copy_44 : decode cX6_copy 44 = .ok (.aload_n 0, 1) := by decide +kernel
theorem dX6_copy_45 : decode cX6_copy 45 = .ok (.getfield 44, 3) := by decide +kernel
theorem dX6_copy_48 : decode cX6_copy 48 = .ok (.iload 4, 2) := by decide +kernel
theorem dX6_copy_50 : decode cX6_copy 50 = .ok (.iaload, 1) := by decide +kernel
theorem dX6_copy_51 : decode cX6_copy 51 = .ok (.iastore, 1) := by decide +kernel
theorem dX6_copy_52 : decode cX6_copy 52 = .ok (.aload_n 0, 1) := by decide +kernel
theorem dX6_copy_53 : decode cX6_copy 53 = .ok (.getfield 47, 3) := by decide +kernel
theorem dX6_copy_56 : decode cX6_copy 56 = .ok (.iload 5, 2) := by decide +kernel
theorem dX6_copy_58 : decode cX6_copy 58 = .ok (.aload_n 0, 1) := by decide +kernel
theorem dX6_copy_59 : decode cX6_copy 59 = .ok (.getfield 47, 3) := by decide +kernel
theorem dX6_copy_62 : decode cX6_copy 62 = .ok (.iload 4, 2) := by decide +kernel
theorem dX6_copy_64 : decode cX6_copy 64 = .ok (.iaload, 1) := by decide +kernel
theorem dX6_copy_65 : decode cX6_copy 65 = .ok (.iastore, 1) := by decide +kernel
theorem dX6_copy_66 : decode cX6_copy 66 = .ok (.aload_n 0, 1) := by decide +kernel
theorem dX6_copy_67 : decode cX6_copy 67 = .ok (.getfield 53, 3) := by decide +kernel
theorem dX6_copy_70 : decode cX6_copy 70 = .ok (.iload 5, 2) := by decide +kernel
theorem dX6_copy_72 : decode cX6_copy 72 = .ok (.aload_n 0, 1) := by decide +kernel
theorem dX6_copy_73 : decode cX6_copy 73 = .ok (.getfield 53, 3) := by decide +kernel
theorem dX6_copy_76 : decode cX6_copy 76 = .ok (.iload 4, 2) := by decide +kernel
theorem dX6_copy_78 : decode cX6_copy 78 = .ok (.iaload, 1) := by decide +kernel
theorem dX6_copy_79 : decode cX6_copy 79 = .ok (.iastore, 1) := by decide +kernel
theorem dX6_copy_80 : decode cX6_copy 80 = .ok (.iconst 0, 1) := by decide +kernel
theorem dX6_copy_81 : decode cX6_copy 81 = .ok (.istore 6, 2) := by decide +kernel
theorem dX6_copy_83 : decode cX6_copy 83 = .ok (.iload 6, 2) := by decide +kernel
theorem dX6_copy_85 : decode cX6_copy 85 = .ok (.iconst 4, 1) := by decide +kernel
theorem dX6_copy_86 : decode cX6_copy 86 = .ok (.if_icmp .ge 33, 3) := by decide +kernel
theorem dX6_copy_89 : decode cX6_copy 89 = .ok (.aload_n 0, 1) := by decide +kernel
theorem dX6_copy_90 : decode cX6_copy 90 = .ok (.getfield 50, 3) := by decide +kernel
theorem dX6_copy_93 : decode cX6_copy 93 = .ok (.iconst 4, 1) := by decide +kernel
theorem dX6_copy_94 : decode cX6_copy 94 = .ok (.iload 5, 2) := by decide +kernel
theorem dX6_copy_96 : decode cX6_copy 96 = .ok (.imul, 1) := by decide +kernel
theorem dX6_copy_97 : decode cX6_copy 97 = .ok (.iload 6, 2) := by decide +kernel
theorem dX6_copy_99 : decode cX6_copy 99 = .ok (.iadd, 1) := by decide +kernel
theorem dX6_copy_100 : decode cX6_copy 100 = .ok (.aload_n 0, 1) := by decide +kernel
theorem dX6_copy_101 : decode cX6_copy 101 = .ok (.getfield 50, 3) := by decide +kernel
theorem dX6_copy_104 : decode cX6_copy 104 = .ok (.iconst 4, 1) := by decide +kernel
theorem dX6_copy_105 : decode cX6_copy 105 = .ok (.iload 4, 2) := by decide +kernel
theorem dX6_copy_107 : decode cX6_copy 107 = .ok (.imul, 1) := by decide +kernel
theorem dX6_copy_108 : decode cX6_copy 108 = .ok (.iload 6, 2) := by decide +kernel
theorem dX6_copy_110 : decode cX6_copy 110 = .ok (.iadd, 1) := by decide +kernel
theorem dX6_copy_111 : decode cX6_copy 111 = .ok (.laload, 1) := by decide +kernel
theorem dX6_copy_112 : decode cX6_copy 112 = .ok (.lastore, 1) := by decide +kernel
theorem dX6_copy_113 : decode cX6_copy 113 = .ok (.iinc 6 1, 3) := by decide +kernel
theorem dX6_copy_116 : decode cX6_copy 116 = .ok (.goto (-33), 3) := by decide +kernel
theorem dX6_copy_119 : decode cX6_copy 119 = .ok (.iconst 0, 1) := by decide +kernel
theorem dX6_copy_120 : decode cX6_copy 120 = .ok (.istore 6, 2) := by decide +kernel
theorem dX6_copy_122 : decode cX6_copy 122 = .ok (.iload 6, 2) := by decide +kernel
theorem dX6_copy_124 : decode cX6_copy 124 = .ok (.bipush 12, 2) := by decide +kernel
theorem dX6_copy_126 : decode cX6_copy 126 = .ok (.if_icmp .ge 113, 3) := by decide +kernel
theorem dX6_copy_129 : decode cX6_copy 129 = .ok (.aload_n 0, 1) := by decide +kernel
theorem dX6_copy_130 : decode cX6_copy 130 = .ok (.getfield 56, 3) := by decide +kernel
theorem dX6_copy_133 : decode cX6_copy 133 = .ok (.bipush 12, 2) := by decide +kernel
theorem dX6_copy_135 : decode cX6_copy 135 = .ok (.iload 5, 2) := by decide +kernel
theorem dX6_copy_137 : decode cX6_copy 137 = .ok (.imul, 1) := by decide +kernel
theorem dX6_copy_138 : decode cX6_copy 138 = .ok (.iload 6, 2) := by decide +kernel
theorem dX6_copy_140 : decode cX6_copy 140 = .ok (.iadd, 1) := by decide +kernel
theorem dX6_copy_141 : decode cX6_copy 141 = .ok (.aload_n 0, 1) := by decide +kernel
theorem dX6_copy_142 : decode cX6_copy 142 = .ok (.getfield 56, 3) := by decide +kernel
theorem dX6_copy_145 : decode cX6_copy 145 = .ok (.bipush 12, 2) := by decide +kernel
theorem dX6_copy_147 : decode cX6_copy 147 = .ok (.iload 4, 2) := by decide +kernel
theorem dX6_copy_149 : decode cX6_copy 149 = .ok (.imul, 1) := by decide +kernel
theorem dX6_copy_150 : decode cX6_copy 150 = .ok (.iload 6, 2) := by decide +kernel
theorem dX6_copy_152 : decode cX6_copy 152 = .ok (.iadd, 1) := by decide +kernel
theorem dX6_copy_153 : decode cX6_copy 153 = .ok (.iaload, 1) := by decide +kernel
theorem dX6_copy_154 : decode cX6_copy 154 = .ok (.iastore, 1) := by decide +kernel
theorem dX6_copy_155 : decode cX6_copy 155 = .ok (.aload_n 0, 1) := by decide +kernel
theorem dX6_copy_156 : decode cX6_copy 156 = .ok (.getfield 59, 3) := by decide +kernel
theorem dX6_copy_159 : decode cX6_copy 159 = .ok (.bipush 12, 2) := by decide +kernel
theorem dX6_copy_161 : decode cX6_copy 161 = .ok (.iload 5, 2) := by decide +kernel
theorem dX6_copy_163 : decode cX6_copy 163 = .ok (.imul, 1) := by decide +kernel
theorem dX6_copy_164 : decode cX6_copy 164 = .ok (.iload 6, 2) := by decide +kernel
theorem dX6_copy_166 : decode cX6_copy 166 = .ok (.iadd, 1) := by decide +kernel
theorem dX6_copy_167 : decode cX6_copy 167 = .ok (.aload_n 0, 1) := by decide +kernel
theorem dX6_copy_168 : decode cX6_copy 168 = .ok (.getfield 59, 3) := by decide +kernel
theorem dX6_copy_171 : decode cX6_copy 171 = .ok (.bipush 12, 2) := by decide +kernel
theorem dX6_copy_173 : decode cX6_copy 173 = .ok (.iload 4, 2) := by decide +kernel
theorem dX6_copy_175 : decode cX6_copy 175 = .ok (.imul, 1) := by decide +kernel
theorem dX6_copy_176 : decode cX6_copy 176 = .ok (.iload 6, 2) := by decide +kernel
theorem dX6_copy_178 : decode cX6_copy 178 = .ok (.iadd, 1) := by decide +kernel
theorem dX6_copy_179 : decode cX6_copy 179 = .ok (.iaload, 1) := by decide +kernel
theorem dX6_copy_180 : decode cX6_copy 180 = .ok (.iastore, 1) := by decide +kernel
theorem dX6_copy_181 : decode cX6_copy 181 = .ok (.aload_n 0, 1) := by decide +kernel
theorem dX6_copy_182 : decode cX6_copy 182 = .ok (.getfield 62, 3) := by decide +kernel
theorem dX6_copy_185 : decode cX6_copy 185 = .ok (.bipush 12, 2) := by decide +kernel
theorem dX6_copy_187 : decode cX6_copy 187 = .ok (.iload 5, 2) := by decide +kernel
theorem dX6_copy_189 : decode cX6_copy 189 = .ok (.imul, 1) := by decide +kernel
theorem dX6_copy_190 : decode cX6_copy 190 = .ok (.iload 6, 2) := by decide +kernel
theorem dX6_copy_192 : decode cX6_copy 192 = .ok (.iadd, 1) := by decide +kernel
theorem dX6_copy_193 : decode cX6_copy 193 = .ok (.aload_n 0, 1) := by decide +kernel
theorem dX6_copy_194 : decode cX6_copy 194 = .ok (.getfield 62, 3) := by decide +kernel
theorem dX6_copy_197 : decode cX6_copy 197 = .ok (.bipush 12, 2) := by decide +kernel
theorem dX6_copy_199 : decode cX6_copy 199 = .ok (.iload 4, 2) := by decide +kernel
theorem dX6_copy_201 : decode cX6_copy 201 = .ok (.imul, 1) := by decide +kernel
theorem dX6_copy_202 : decode cX6_copy 202 = .ok (.iload 6, 2) := by decide +kernel
theorem dX6_copy_204 : decode cX6_copy 204 = .ok (.iadd, 1) := by decide +kernel
theorem dX6_copy_205 : decode cX6_copy 205 = .ok (.iaload, 1) := by decide +kernel
theorem dX6_copy_206 : decode cX6_copy 206 = .ok (.iastore, 1) := by decide +kernel
theorem dX6_copy_207 : decode cX6_copy 207 = .ok (.aload_n 0, 1) := by decide +kernel
theorem dX6_copy_208 : decode cX6_copy 208 = .ok (.getfield 65, 3) := by decide +kernel
theorem dX6_copy_211 : decode cX6_copy 211 = .ok (.bipush 12, 2) := by decide +kernel
theorem dX6_copy_213 : decode cX6_copy 213 = .ok (.iload 5, 2) := by decide +kernel
theorem dX6_copy_215 : decode cX6_copy 215 = .ok (.imul, 1) := by decide +kernel
theorem dX6_copy_216 : decode cX6_copy 216 = .ok (.iload 6, 2) := by decide +kernel
theorem dX6_copy_218 : decode cX6_copy 218 = .ok (.iadd, 1) := by decide +kernel
theorem dX6_copy_219 : decode cX6_copy 219 = .ok (.aload_n 0, 1) := by decide +kernel
theorem dX6_copy_220 : decode cX6_copy 220 = .ok (.getfield 65, 3) := by decide +kernel
theorem dX6_copy_223 : decode cX6_copy 223 = .ok (.bipush 12, 2) := by decide +kernel
theorem dX6_copy_225 : decode cX6_copy 225 = .ok (.iload 4, 2) := by decide +kernel
theorem dX6_copy_227 : decode cX6_copy 227 = .ok (.imul, 1) := by decide +kernel
theorem dX6_copy_228 : decode cX6_copy 228 = .ok (.iload 6, 2) := by decide +kernel
theorem dX6_copy_230 : decode cX6_copy 230 = .ok (.iadd, 1) := by decide +kernel
theorem dX6_copy_231 : decode cX6_copy 231 = .ok (.laload, 1) := by decide +kernel
theorem dX6_copy_232 : decode cX6_copy 232 = .ok (.lastore, 1) := by decide +kernel
theorem dX6_copy_233 : decode cX6_copy 233 = .ok (.iinc 6 1, 3) := by decide +kernel
theorem dX6_copy_236 : decode cX6_copy 236 = .ok (.goto (-114), 3) := by decide +kernel
theorem dX6_copy_239 : decode cX6_copy 239 = .ok (.iconst 0, 1) := by decide +kernel
theorem dX6_copy_240 : decode cX6_copy 240 = .ok (.istore 6, 2) := by decide +kernel
theorem dX6_copy_242 : decode cX6_copy 242 = .ok (.iload 6, 2) := by decide +kernel
theorem dX6_copy_244 : decode cX6_copy 244 = .ok (.bipush 6, 2) := by decide +kernel
theorem dX6_copy_246 : decode cX6_copy 246 = .ok (.if_icmp .ge 61, 3) := by decide +kernel
theorem dX6_copy_249 : decode cX6_copy 249 = .ok (.aload_n 0, 1) := by decide +kernel
theorem dX6_copy_250 : decode cX6_copy 250 = .ok (.getfield 68, 3) := by decide +kernel
theorem dX6_copy_253 : decode cX6_copy 253 = .ok (.bipush 6, 2) := by decide +kernel
theorem dX6_copy_255 : decode cX6_copy 255 = .ok (.iload 5, 2) := by decide +kernel
theorem dX6_copy_257 : decode cX6_copy 257 = .ok (.imul, 1) := by decide +kernel
theorem dX6_copy_258 : decode cX6_copy 258 = .ok (.iload 6, 2) := by decide +kernel
theorem dX6_copy_260 : decode cX6_copy 260 = .ok (.iadd, 1) := by decide +kernel
theorem dX6_copy_261 : decode cX6_copy 261 = .ok (.aload_n 0, 1) := by decide +kernel
theorem dX6_copy_262 : decode cX6_copy 262 = .ok (.getfield 68, 3) := by decide +kernel
theorem dX6_copy_265 : decode cX6_copy 265 = .ok (.bipush 6, 2) := by decide +kernel
theorem dX6_copy_267 : decode cX6_copy 267 = .ok (.iload 4, 2) := by decide +kernel
theorem dX6_copy_269 : decode cX6_copy 269 = .ok (.imul, 1) := by decide +kernel
theorem dX6_copy_270 : decode cX6_copy 270 = .ok (.iload 6, 2) := by decide +kernel
theorem dX6_copy_272 : decode cX6_copy 272 = .ok (.iadd, 1) := by decide +kernel
theorem dX6_copy_273 : decode cX6_copy 273 = .ok (.iaload, 1) := by decide +kernel
theorem dX6_copy_274 : decode cX6_copy 274 = .ok (.iastore, 1) := by decide +kernel
theorem dX6_copy_275 : decode cX6_copy 275 = .ok (.aload_n 0, 1) := by decide +kernel
theorem dX6_copy_276 : decode cX6_copy 276 = .ok (.getfield 71, 3) := by decide +kernel
theorem dX6_copy_279 : decode cX6_copy 279 = .ok (.bipush 6, 2) := by decide +kernel
theorem dX6_copy_281 : decode cX6_copy 281 = .ok (.iload 5, 2) := by decide +kernel
theorem dX6_copy_283 : decode cX6_copy 283 = .ok (.imul, 1) := by decide +kernel
theorem dX6_copy_284 : decode cX6_copy 284 = .ok (.iload 6, 2) := by decide +kernel
theorem dX6_copy_286 : decode cX6_copy 286 = .ok (.iadd, 1) := by decide +kernel
theorem dX6_copy_287 : decode cX6_copy 287 = .ok (.aload_n 0, 1) := by decide +kernel
theorem dX6_copy_288 : decode cX6_copy 288 = .ok (.getfield 71, 3) := by decide +kernel
theorem dX6_copy_291 : decode cX6_copy 291 = .ok (.bipush 6, 2) := by decide +kernel
theorem dX6_copy_293 : decode cX6_copy 293 = .ok (.iload 4, 2) := by decide +kernel
theorem dX6_copy_295 : decode cX6_copy 295 = .ok (.imul, 1) := by decide +kernel
theorem dX6_copy_296 : decode cX6_copy 296 = .ok (.iload 6, 2) := by decide +kernel
theorem dX6_copy_298 : decode cX6_copy 298 = .ok (.iadd, 1) := by decide +kernel
theorem dX6_copy_299 : decode cX6_copy 299 = .ok (.iaload, 1) := by decide +kernel
theorem dX6_copy_300 : decode cX6_copy 300 = .ok (.iastore, 1) := by decide +kernel
theorem dX6_copy_301 : decode cX6_copy 301 = .ok (.iinc 6 1, 3) := by decide +kernel
theorem dX6_copy_304 : decode cX6_copy 304 = .ok (.goto (-62), 3) := by decide +kernel
theorem dX6_copy_307 : decode cX6_copy 307 = .ok (.iinc 3 1, 3) := by decide +kernel
theorem dX6_copy_310 : decode cX6_copy 310 = .ok (.goto (-308), 3) := by decide +kernel
theorem dX6_copy_313 : decode cX6_copy 313 = .ok (.return_, 1) := by decide +kernel
theorem dX6_sync_0 : decode cX6_sync 0 = .ok (.aload_n 0, 1) := by decide +kernel
theorem dX6_sync_1 : decode cX6_sync 1 = .ok (.iload_n 1, 1) := by decide +kernel
theorem dX6_sync_2 : decode cX6_sync 2 = .ok (.invokevirtual 201, 3) := by decide +kernel
theorem dX6_sync_5 : decode cX6_sync 5 = .ok (.ifCond .ne 5, 3) := by decide +kernel
theorem dX6_sync_8 : decode cX6_sync 8 = .ok (.iconst (-1), 1) := by decide +kernel
theorem dX6_sync_9 : decode cX6_sync 9 = .ok (.ireturn, 1) := by decide +kernel
theorem dX6_sync_10 : decode cX6_sync 10 = .ok (.aload_n 0, 1) := by decide +kernel
theorem dX6_sync_11 : decode cX6_sync 11 = .ok (.getfield 74, 3) := by decide +kernel
theorem dX6_sync_14 : decode cX6_sync 14 = .ok (.iload_n 1, 1) := by decide +kernel
theorem dX6_sync_15 : decode cX6_sync 15 = .ok (.baload, 1) := by decide +kernel
theorem dX6_sync_16 : decode cX6_sync 16 = .ok (.ifCond .ne 6, 3) := by decide +kernel
theorem dX6_sync_19 : decode cX6_sync 19 = .ok (.bipush (-3), 2) := by decide +kernel
theorem dX6_sync_21 : decode cX6_sync 21 = .ok (.ireturn, 1) := by decide +kernel
theorem dX6_sync_22 : decode cX6_sync 22 = .ok (.aload_n 0, 1) := by decide +kernel
theorem dX6_sync_23 : decode cX6_sync 23 = .ok (.iconst 2, 1) := by decide +kernel
theorem dX6_sync_24 : decode cX6_sync 24 = .ok (.iload_n 1, 1) := by decide +kernel
theorem dX6_sync_25 : decode cX6_sync 25 = .ok (.imul, 1) := by decide +kernel
theorem dX6_sync_26 : decode cX6_sync 26 = .ok (.iconst 2, 1) := by decide +kernel
theorem dX6_sync_27 : decode cX6_sync 27 = .ok (.iload_n 1, 1) := by decide +kernel
theorem dX6_sync_28 : decode cX6_sync 28 = .ok (.imul, 1) := by decide +kernel
theorem dX6_sync_29 : decode cX6_sync 29 = .ok (.iconst 1, 1) := by decide +kernel
theorem dX6_sync_30 : decode cX6_sync 30 = .ok (.iadd, 1) := by decide +kernel
theorem dX6_sync_31 : decode cX6_sync 31 = .ok (.invokevirtual 243, 3) := by decide +kernel
theorem dX6_sync_34 : decode cX6_sync 34 = .ok (.aload_n 0, 1) := by decide +kernel
theorem dX6_sync_35 : decode cX6_sync 35 = .ok (.getfield 78, 3) := by decide +kernel
theorem dX6_sync_38 : decode cX6_sync 38 = .ok (.iload_n 1, 1) := by decide +kernel
theorem dX6_sync_39 : decode cX6_sync 39 = .ok (.iconst 0, 1) := by decide +kernel
theorem dX6_sync_40 : decode cX6_sync 40 = .ok (.bastore, 1) := by decide +kernel
theorem dX6_sync_41 : decode cX6_sync 41 = .ok (.aload_n 0, 1) := by decide +kernel
theorem dX6_sync_42 : decode cX6_sync 42 = .ok (.getfield 142, 3) := by decide +kernel
theorem dX6_sync_45 : decode cX6_sync 45 = .ok (.iload_n 1, 1) := by decide +kernel
theorem dX6_sync_46 : decode cX6_sync 46 = .ok (.iaload, 1) := by decide +kernel
theorem dX6_sync_47 : decode cX6_sync 47 = .ok (.istore_n 2, 1) := by decide +kernel
theorem dX6_sync_48 : decode cX6_sync 48 = .ok (.aload_n 0, 1) := by decide +kernel
theorem dX6_sync_49 : decode cX6_sync 49 = .ok (.getfield 142, 3) := by decide +kernel
theorem dX6_sync_52 : decode cX6_sync 52 = .ok (.iload_n 1, 1) := by decide +kernel
theorem dX6_sync_53 : decode cX6_sync 53 = .ok (.iconst 0, 1) := by decide +kernel
theorem dX6_sync_54 : decode cX6_sync 54 = .ok (.iastore, 1) := by decide +kernel
theorem dX6_sync_55 : decode cX6_sync 55 = .ok (.iconst 0, 1) := by decide +kernel
theorem dX6_sync_56 : decode cX6_sync 56 = .ok (.istore_n 3, 1) := by decide +kernel
theorem dX6_sync_57 : decode cX6_sync 57 = .ok (.iload_n 3, 1) := by decide +kernel
theorem dX6_sync_58 : decode cX6_sync 58 = .ok (.iload_n 2, 1) := by decide +kernel
theorem dX6_sync_59 : decode cX6_sync 59 = .ok (.if_icmp .ge 25, 3) := by decide +kernel
theorem dX6_sync_62 : decode cX6_sync 62 = .ok (.aload_n 0, 1) := by decide +kernel
theorem dX6_sync_63 : decode cX6_sync 63 = .ok (.aload_n 0, 1) := by decide +kernel
theorem dX6_sync_64 : decode cX6_sync 64 = .ok (.getfield 139, 3) := by decide +kernel
theorem dX6_sync_67 : decode cX6_sync 67 = .ok (.sipush 4200, 3) := by decide +kernel
theorem dX6_sync_70 : decode cX6_sync 70 = .ok (.iload_n 1, 1) := by decide +kernel
theorem dX6_sync_71 : decode cX6_sync 71 = .ok (.imul, 1) := by decide +kernel
theorem dX6_sync_72 : decode cX6_sync 72 = .ok (.iload_n 3, 1) := by decide +kernel
theorem dX6_sync_73 : decode cX6_sync 73 = .ok (.iadd, 1) := by decide +kernel
theorem dX6_sync_74 : decode cX6_sync 74 = .ok (.iaload, 1) := by decide +kernel
theorem dX6_sync_75 : decode cX6_sync 75 = .ok (.invokevirtual 168, 3) := by decide +kernel
theorem dX6_sync_78 : decode cX6_sync 78 = .ok (.iinc 3 1, 3) := by decide +kernel
theorem dX6_sync_81 : decode cX6_sync 81 = .ok (.goto (-24), 3) := by decide +kernel
theorem dX6_sync_84 : decode cX6_sync 84 = .ok (.iload_n 2, 1) := by decide +kernel
theorem dX6_sync_85 : decode cX6_sync 85 = .ok (.ireturn, 1) := by decide +kernel
theorem dX6_crash_0 : decode cX6_crash 0 = .ok (.aload_n 0, 1) := by decide +kernel
theorem dX6_crash_1 : decode cX6_crash 1 = .ok (.iload_n 1, 1) := by decide +kernel
theorem dX6_crash_2 : decode cX6_crash 2 = .ok (.invokevirtual 201, 3) := by decide +kernel
theorem dX6_crash_5 : decode cX6_crash 5 = .ok (.ifCond .ne 5, 3) := by decide +kernel
theorem dX6_crash_8 : decode cX6_crash 8 = .ok (.iconst (-1), 1) := by decide +kernel
theorem dX6_crash_9 : decode cX6_crash 9 = .ok (.ireturn, 1) := by decide +kernel
theorem dX6_crash_10 : decode cX6_crash 10 = .ok (.aload_n 0, 1) := by decide +kernel
theorem dX6_crash_11 : decode cX6_crash 11 = .ok (.getfield 74, 3) := by decide +kernel
theorem dX6_crash_14 : decode cX6_crash 14 = .ok (.iload_n 1, 1) := by decide +kernel
theorem dX6_crash_15 : decode cX6_crash 15 = .ok (.baload, 1) := by decide +kernel
theorem dX6_crash_16 : decode cX6_crash 16 = .ok (.ifCond .ne 6, 3) := by decide +kernel
theorem dX6_crash_19 : decode cX6_crash 19 = .ok (.bipush (-3), 2) := by decide +kernel
theorem dX6_crash_21 : decode cX6_crash 21 = .ok (.ireturn, 1) := by decide +kernel
theorem dX6_crash_22 : decode cX6_crash 22 = .ok (.aload_n 0, 1) := by decide +kernel
theorem dX6_crash_23 : decode cX6_crash 23 = .ok (.getfield 74, 3) := by decide +kernel
theorem dX6_crash_26 : decode cX6_crash 26 = .ok (.iload_n 1, 1) := by decide +kernel
theorem dX6_crash_27 : decode cX6_crash 27 = .ok (.iconst 0, 1) := by decide +kernel
theorem dX6_crash_28 : decode cX6_crash 28 = .ok (.bastore, 1) := by decide +kernel
theorem dX6_crash_29 : decode cX6_crash 29 = .ok (.aload_n 0, 1) := by decide +kernel
theorem dX6_crash_30 : decode cX6_crash 30 = .ok (.getfield 142, 3) := by decide +kernel
theorem dX6_crash_33 : decode cX6_crash 33 = .ok (.iload_n 1, 1) := by decide +kernel
theorem dX6_crash_34 : decode cX6_crash 34 = .ok (.iaload, 1) := by decide +kernel
theorem dX6_crash_35 : decode cX6_crash 35 = .ok (.istore_n 2, 1) := by decide +kernel
theorem dX6_crash_36 : decode cX6_crash 36 = .ok (.iconst 0, 1) := by decide +kernel
theorem dX6_crash_37 : decode cX6_crash 37 = .ok (.istore_n 3, 1) := by decide +kernel
theorem dX6_crash_38 : decode cX6_crash 38 = .ok (.iload_n 3, 1) := by decide +kernel
theorem dX6_crash_39 : decode cX6_crash 39 = .ok (.iload_n 2, 1) := by decide +kernel
theorem dX6_crash_40 : decode cX6_crash 40 = .ok (.if_icmp .ge 27, 3) := by decide +kernel
theorem dX6_crash_43 : decode cX6_crash 43 = .ok (.aload_n 0, 1) := by decide +kernel
theorem dX6_crash_44 : decode cX6_crash 44 = .ok (.getfield 81, 3) := by decide +kernel
theorem dX6_crash_47 : decode cX6_crash 47 = .ok (.aload_n 0, 1) := by decide +kernel
theorem dX6_crash_48 : decode cX6_crash 48 = .ok (.getfield 139, 3) := by decide +kernel
theorem dX6_crash_51 : decode cX6_crash 51 = .ok (.sipush 4200, 3) := by decide +kernel
theorem dX6_crash_54 : decode cX6_crash 54 = .ok (.iload_n 1, 1) := by decide +kernel
theorem dX6_crash_55 : decode cX6_crash 55 = .ok (.imul, 1) := by decide +kernel
theorem dX6_crash_56 : decode cX6_crash 56 = .ok (.iload_n 3, 1) := by decide +kernel
theorem dX6_crash_57 : decode cX6_crash 57 = .ok (.iadd, 1) := by decide +kernel
theorem dX6_crash_58 : decode cX6_crash 58 = .ok (.iaload, 1) := by decide +kernel
theorem dX6_crash_59 : decode cX6_crash 59 = .ok (.iconst 0, 1) := by decide +kernel
theorem dX6_crash_60 : decode cX6_crash 60 = .ok (.bastore, 1) := by decide +kernel
theorem dX6_crash_61 : decode cX6_crash 61 = .ok (.iinc 3 1, 3) := by decide +kernel
theorem dX6_crash_64 : decode cX6_crash 64 = .ok (.goto (-26), 3) := by decide +kernel
theorem dX6_crash_67 : decode cX6_crash 67 = .ok (.aload_n 0, 1) := by decide +kernel
theorem dX6_crash_68 : decode cX6_crash 68 = .ok (.getfield 142, 3) := by decide +kernel
theorem dX6_crash_71 : decode cX6_crash 71 = .ok (.iload_n 1, 1) := by decide +kernel
theorem dX6_crash_72 : decode cX6_crash 72 = .ok (.iconst 0, 1) := by decide +kernel
theorem dX6_crash_73 : decode cX6_crash 73 = .ok (.iastore, 1) := by decide +kernel
theorem dX6_crash_74 : decode cX6_crash 74 = .ok (.aload_n 0, 1) := by decide +kernel
theorem dX6_crash_75 : decode cX6_crash 75 = .ok (.dup, 1) := by decide +kernel
theorem dX6_crash_76 : decode cX6_crash 76 = .ok (.getfield 165, 3) := by decide +kernel
theorem dX6_crash_79 : decode cX6_crash 79 = .ok (.iload_n 2, 1) := by decide +kernel
theorem dX6_crash_80 : decode cX6_crash 80 = .ok (.iadd, 1) := by decide +kernel
theorem dX6_crash_81 : decode cX6_crash 81 = .ok (.putfield 165, 3) := by decide +kernel
theorem dX6_crash_84 : decode cX6_crash 84 = .ok (.iload_n 2, 1) := by decide +kernel
theorem dX6_crash_85 : decode cX6_crash 85 = .ok (.ireturn, 1) := by decide +kernel
theorem dX6_start_0 : decode cX6_start 0 = .ok (.aload_n 0, 1) := by decide +kernel
theorem dX6_start_1 : decode cX6_start 1 = .ok (.iload_n 1, 1) := by decide +kernel
theorem dX6_start_2 : decode cX6_start 2 = .ok (.invokevirtual 201, 3) := by decide +kernel
theorem dX6_start_5 : decode cX6_start 5 = .ok (.ifCond .ne 5, 3) := by decide +kernel
theorem dX6_start_8 : decode cX6_start 8 = .ok (.iconst (-1), 1) := by decide +kernel
theorem dX6_start_9 : decode cX6_start 9 = .ok (.ireturn, 1) := by decide +kernel
theorem dX6_start_10 : decode cX6_start 10 = .ok (.aload_n 0, 1) := by decide +kernel
theorem dX6_start_11 : decode cX6_start 11 = .ok (.getfield 74, 3) := by decide +kernel
theorem dX6_start_14 : decode cX6_start 14 = .ok (.iload_n 1, 1) := by decide +kernel
theorem dX6_start_15 : decode cX6_start 15 = .ok (.baload, 1) := by decide +kernel
theorem dX6_start_16 : decode cX6_start 16 = .ok (.ifCond .eq 6, 3) := by decide +kernel
theorem dX6_start_19 : decode cX6_start 19 = .ok (.bipush (-3), 2) := by decide +kernel
theorem dX6_start_21 : decode cX6_start 21 = .ok (.ireturn, 1) := by decide +kernel
theorem dX6_start_22 : decode cX6_start 22 = .ok (.aload_n 0, 1) := by decide +kernel
theorem dX6_start_23 : decode cX6_start 23 = .ok (.getfield 74, 3) := by decide +kernel
theorem dX6_start_26 : decode cX6_start 26 = .ok (.iload_n 1, 1) := by decide +kernel
theorem dX6_start_27 : decode cX6_start 27 = .ok (.iconst 1, 1) := by decide +kernel
theorem dX6_start_28 : decode cX6_start 28 = .ok (.bastore, 1) := by decide +kernel
theorem dX6_start_29 : decode cX6_start 29 = .ok (.aload_n 0, 1) := by decide +kernel
theorem dX6_start_30 : decode cX6_start 30 = .ok (.iconst 2, 1) := by decide +kernel
theorem dX6_start_31 : decode cX6_start 31 = .ok (.iload_n 1, 1) := by decide +kernel
theorem dX6_start_32 : decode cX6_start 32 = .ok (.imul, 1) := by decide +kernel
theorem dX6_start_33 : decode cX6_start 33 = .ok (.iconst 1, 1) := by decide +kernel
theorem dX6_start_34 : decode cX6_start 34 = .ok (.iadd, 1) := by decide +kernel
theorem dX6_start_35 : decode cX6_start 35 = .ok (.iconst 2, 1) := by decide +kernel
theorem dX6_start_36 : decode cX6_start 36 = .ok (.iload_n 1, 1) := by decide +kernel
theorem dX6_start_37 : decode cX6_start 37 = .ok (.imul, 1) := by decide +kernel
theorem dX6_start_38 : decode cX6_start 38 = .ok (.invokevirtual 243, 3) := by decide +kernel
theorem dX6_start_41 : decode cX6_start 41 = .ok (.aload_n 0, 1) := by decide +kernel
theorem dX6_start_42 : decode cX6_start 42 = .ok (.getfield 78, 3) := by decide +kernel
theorem dX6_start_45 : decode cX6_start 45 = .ok (.iload_n 1, 1) := by decide +kernel
theorem dX6_start_46 : decode cX6_start 46 = .ok (.iconst 0, 1) := by decide +kernel
theorem dX6_start_47 : decode cX6_start 47 = .ok (.bastore, 1) := by decide +kernel
theorem dX6_start_48 : decode cX6_start 48 = .ok (.iconst 1, 1) := by decide +kernel
theorem dX6_start_49 : decode cX6_start 49 = .ok (.ireturn, 1) := by decide +kernel
theorem dX6_move_0 : decode cX6_move 0 = .ok (.aload_n 0, 1) := by decide +kernel
theorem dX6_move_1 : decode cX6_move 1 = .ok (.iload_n 1, 1) := by decide +kernel
theorem dX6_move_2 : decode cX6_move 2 = .ok (.invokevirtual 201, 3) := by decide +kernel
theorem dX6_move_5 : decode cX6_move 5 = .ok (.ifCond .eq 21, 3) := by decide +kernel
theorem dX6_move_8 : decode cX6_move 8 = .ok (.iload_n 2, 1) := by decide +kernel
theorem dX6_move_9 : decode cX6_move 9 = .ok (.iconst 0, 1) := by decide +kernel
theorem dX6_move_10 : decode cX6_move 10 = .ok (.bipush 7, 2) := by decide +kernel
theorem dX6_move_12 : decode cX6_move 12 = .ok (.invokestatic 152, 3) := by decide +kernel
theorem dX6_move_15 : decode cX6_move 15 = .ok (.ifCond .eq 11, 3) := by decide +kernel
theorem dX6_move_18 : decode cX6_move 18 = .ok (.aload_n 0, 1) := by decide +kernel
theorem dX6_move_19 : decode cX6_move 19 = .ok (.iload_n 3, 1) := by decide +kernel
theorem dX6_move_20 : decode cX6_move 20 = .ok (.invokevirtual 201, 3) := by decide +kernel
theorem dX6_move_23 : decode cX6_move 23 = .ok (.ifCond .ne 5, 3) := by decide +kernel
theorem dX6_move_26 : decode cX6_move 26 = .ok (.iconst (-1), 1) := by decide +kernel
theorem dX6_move_27 : decode cX6_move 27 = .ok (.ireturn, 1) := by decide +kernel
theorem dX6_move_28 : decode cX6_move 28 = .ok (.bipush 16, 2) := by decide +kernel
theorem dX6_move_30 : decode cX6_move 30 = .ok (.iload_n 1, 1) := by decide +kernel
theorem dX6_move_31 : decode cX6_move 31 = .ok (.imul, 1) := by decide +kernel
theorem dX6_move_32 : decode cX6_move 32 = .ok (.iload_n 2, 1) := by decide +kernel
theorem dX6_move_33 : decode cX6_move 33 = .ok (.iadd, 1) := by decide +kernel
theorem dX6_move_34 : decode cX6_move 34 = .ok (.istore 4, 2) := by decide +kernel
theorem dX6_move_36 : decode cX6_move 36 = .ok (.aload_n 0, 1) := by decide +kernel
theorem dX6_move_37 : decode cX6_move 37 = .ok (.getfield 74, 3) := by decide +kernel
theorem dX6_move_40 : decode cX6_move 40 = .ok (.iload_n 1, 1) := by decide +kernel
theorem dX6_move_41 : decode cX6_move 41 = .ok (.baload, 1) := by decide +kernel
theorem dX6_move_42 : decode cX6_move 42 = .ok (.ifCond .eq 40, 3) := by decide +kernel
theorem dX6_move_45 : decode cX6_move 45 = .ok (.aload_n 0, 1) := by decide +kernel
theorem dX6_move_46 : decode cX6_move 46 = .ok (.getfield 41, 3) := by decide +kernel
theorem dX6_move_49 : decode cX6_move 49 = .ok (.iload 4, 2) := by decide +kernel
theorem dX6_move_51 : decode cX6_move 51 = .ok (.iaload, 1) := by decide +kernel
theorem dX6_move_52 : decode cX6_move 52 = .ok (.ifCond .eq 30, 3) := by decide +kernel
theorem dX6_move_55 : decode cX6_move 55 = .ok (.aload_n 0, 1) := by decide +kernel
theorem dX6_move_56 : decode cX6_move 56 = .ok (.getfield 41, 3) := by decide +kernel
theorem dX6_move_59 : decode cX6_move 59 = .ok (.iload 4, 2) := by decide +kernel
theorem dX6_move_61 : decode cX6_move 61 = .ok (.iaload, 1) := by decide +kernel
theorem dX6_move_62 : decode cX6_move 62 = .ok (.iconst 2, 1) := by decide +kernel
theorem dX6_move_63 : decode cX6_move 63 = .ok (.if_icmp .ne 14, 3) := by decide +kernel
theorem dX6_move_66 : decode cX6_move 66 = .ok (.aload_n 0, 1) := by decide +kernel
theorem dX6_move_67 : decode cX6_move 67 = .ok (.getfield 47, 3) := by decide +kernel
theorem dX6_move_70 : decode cX6_move 70 = .ok (.iload 4, 2) := by decide +kernel
theorem dX6_move_72 : decode cX6_move 72 = .ok (.iaload, 1) := by decide +kernel
theorem dX6_move_73 : decode cX6_move 73 = .ok (.iload_n 3, 1) := by decide +kernel
theorem dX6_move_74 : decode cX6_move 74 = .ok (.if_icmp .ne 8, 3) := by decide +kernel
theorem dX6_move_77 : decode cX6_move 77 = .ok (.iload_n 3, 1) := by decide +kernel
theorem dX6_move_78 : decode cX6_move 78 = .ok (.iload_n 1, 1) := by decide +kernel
theorem dX6_move_79 : decode cX6_move 79 = .ok (.if_icmp .ne 6, 3) := by decide +kernel
theorem dX6_move_82 : decode cX6_move 82 = .ok (.bipush (-3), 2) := by decide +kernel
theorem dX6_move_84 : decode cX6_move 84 = .ok (.ireturn, 1) := by decide +kernel
theorem dX6_move_85 : decode cX6_move 85 = .ok (.aload_n 0, 1) := by decide +kernel
theorem dX6_move_86 : decode cX6_move 86 = .ok (.getfield 41, 3) := by decide +kernel
theorem dX6_move_89 : decode cX6_move 89 = .ok (.iload 4, 2) := by decide +kernel
theorem dX6_move_91 : decode cX6_move 91 = .ok (.iaload, 1) := by decide +kernel
theorem dX6_move_92 : decode cX6_move 92 = .ok (.iconst 1, 1) := by decide +kernel
theorem dX6_move_93 : decode cX6_move 93 = .ok (.if_icmp .ne 26, 3) := by decide +kernel
theorem dX6_move_96 : decode cX6_move 96 = .ok (.aload_n 0, 1) := by decide +kernel
theorem dX6_move_97 : decode cX6_move 97 = .ok (.getfield 41, 3) := by decide +kernel
theorem dX6_move_100 : decode cX6_move 100 = .ok (.iload 4, 2) := by decide +kernel
theorem dX6_move_102 : decode cX6_move 102 = .ok (.iconst 2, 1) := by decide +kernel
theorem dX6_move_103 : decode cX6_move 103 = .ok (.iastore, 1) := by decide +kernel
theorem dX6_move_104 : decode cX6_move 104 = .ok (.aload_n 0, 1) := by decide +kernel
theorem dX6_move_105 : decode cX6_move 105 = .ok (.getfield 47, 3) := by decide +kernel
theorem dX6_move_108 : decode cX6_move 108 = .ok (.iload 4, 2) := by decide +kernel
theorem dX6_move_110 : decode cX6_move 110 = .ok (.iload_n 3, 1) := by decide +kernel
theorem dX6_move_111 : decode cX6_move 111 = .ok (.iastore, 1) := by decide +kernel
theorem dX6_move_112 : decode cX6_move 112 = .ok (.aload_n 0, 1) := by decide +kernel
theorem dX6_move_113 : decode cX6_move 113 = .ok (.getfield 78, 3) := by decide +kernel
theorem dX6_move_116 : decode cX6_move 116 = .ok (.iload_n 1, 1) := by decide +kernel
theorem dX6_move_117 : decode cX6_move 117 = .ok (.iconst 1, 1) := by decide +kernel
theorem dX6_move_118 : decode cX6_move 118 = .ok (.bastore, 1) := by decide +kernel
theorem dX6_move_119 : decode cX6_move 119 = .ok (.aload_n 0, 1) := by decide +kernel
theorem dX6_move_120 : decode cX6_move 120 = .ok (.iconst 3, 1) := by decide +kernel
theorem dX6_move_121 : decode cX6_move 121 = .ok (.iload_n 3, 1) := by decide +kernel
theorem dX6_move_122 : decode cX6_move 122 = .ok (.iload_n 1, 1) := by decide +kernel
theorem dX6_move_123 : decode cX6_move 123 = .ok (.invokevirtual 182, 3) := by decide +kernel
theorem dX6_move_126 : decode cX6_move 126 = .ok (.istore 5, 2) := by decide +kernel
theorem dX6_move_128 : decode cX6_move 128 = .ok (.aload_n 0, 1) := by decide +kernel
theorem dX6_move_129 : decode cX6_move 129 = .ok (.getfield 93, 3) := by decide +kernel
theorem dX6_move_132 : decode cX6_move 132 = .ok (.iload 5, 2) := by decide +kernel
theorem dX6_move_134 : decode cX6_move 134 = .ok (.aload_n 0, 1) := by decide +kernel
theorem dX6_move_135 : decode cX6_move 135 = .ok (.getfield 44, 3) := by decide +kernel
theorem dX6_move_138 : decode cX6_move 138 = .ok (.iload 4, 2) := by decide +kernel
theorem dX6_move_140 : decode cX6_move 140 = .ok (.iaload, 1) := by decide +kernel
theorem dX6_move_141 : decode cX6_move 141 = .ok (.iconst 1, 1) := by decide +kernel
theorem dX6_move_142 : decode cX6_move 142 = .ok (.iadd, 1) := by decide +kernel
theorem dX6_move_143 : decode cX6_move 143 = .ok (.iastore, 1) := by decide +kernel
theorem dX6_move_144 : decode cX6_move 144 = .ok (.aload_n 0, 1) := by decide +kernel
theorem dX6_move_145 : decode cX6_move 145 = .ok (.getfield 96, 3) := by decide +kernel
theorem dX6_move_148 : decode cX6_move 148 = .ok (.iload 5, 2) := by decide +kernel
theorem dX6_move_150 : decode cX6_move 150 = .ok (.iload_n 2, 1) := by decide +kernel
theorem dX6_move_151 : decode cX6_move 151 = .ok (.iastore, 1) := by decide +kernel
theorem dX6_move_152 : decode cX6_move 152 = .ok (.aload_n 0, 1) := by decide +kernel
theorem dX6_move_153 : decode cX6_move 153 = .ok (.getfield 102, 3) := by decide +kernel
theorem dX6_move_156 : decode cX6_move 156 = .ok (.iload 5, 2) := by decide +kernel
theorem dX6_move_158 : decode cX6_move 158 = .ok (.iload_n 2, 1) := by decide +kernel
theorem dX6_move_159 : decode cX6_move 159 = .ok (.iastore, 1) := by decide +kernel
theorem dX6_move_160 : decode cX6_move 160 = .ok (.aload_n 0, 1) := by decide +kernel
theorem dX6_move_161 : decode cX6_move 161 = .ok (.getfield 99, 3) := by decide +kernel
theorem dX6_move_164 : decode cX6_move 164 = .ok (.iload 5, 2) := by decide +kernel
theorem dX6_move_166 : decode cX6_move 166 = .ok (.aload_n 0, 1) := by decide +kernel
theorem dX6_move_167 : decode cX6_move 167 = .ok (.getfield 53, 3) := by decide +kernel
theorem dX6_move_170 : decode cX6_move 170 = .ok (.iload 4, 2) := by decide +kernel
theorem dX6_move_172 : decode cX6_move 172 = .ok (.iaload, 1) := by decide +kernel
theorem dX6_move_173 : decode cX6_move 173 = .ok (.iastore, 1) := by decide +kernel
theorem dX6_move_174 : decode cX6_move 174 = .ok (.iconst 0, 1) := by decide +kernel
theorem dX6_move_175 : decode cX6_move 175 = .ok (.istore 6, 2) := by decide +kernel
theorem dX6_move_177 : decode cX6_move 177 = .ok (.iload 6, 2) := by decide +kernel
theorem dX6_move_179 : decode cX6_move 179 = .ok (.iconst 4, 1) := by decide +kernel
theorem dX6_move_180 : decode cX6_move 180 = .ok (.if_icmp .ge 33, 3) := by decide +kernel
theorem dX6_move_183 : decode cX6_move 183 = .ok (.aload_n 0, 1) := by decide +kernel
theorem dX6_move_184 : decode cX6_move 184 = .ok (.getfield 114, 3) := by decide +kernel
theorem dX6_move_187 : decode cX6_move 187 = .ok (.iconst 4, 1) := by decide +kernel
theorem dX6_move_188 : decode cX6_move 188 = .ok (.iload 5, 2) := by decide +kernel
theorem dX6_move_190 : decode cX6_move 190 = .ok (.imul, 1) := by decide +kernel
theorem dX6_move_191 : decode cX6_move 191 = .ok (.iload 6, 2) := by decide +kernel
theorem dX6_move_193 : decode cX6_move 193 = .ok (.iadd, 1) := by decide +kernel
theorem dX6_move_194 : decode cX6_move 194 = .ok (.aload_n 0, 1) := by decide +kernel
theorem dX6_move_195 : decode cX6_move 195 = .ok (.getfield 50, 3) := by decide +kernel
theorem dX6_move_198 : decode cX6_move 198 = .ok (.iconst 4, 1) := by decide +kernel
theorem dX6_move_199 : decode cX6_move 199 = .ok (.iload 4, 2) := by decide +kernel
theorem dX6_move_201 : decode cX6_move 201 = .ok (.imul, 1) := by decide +kernel
theorem dX6_move_202 : decode cX6_move 202 = .ok (.iload 6, 2) := by decide +kernel
theorem dX6_move_204 : decode cX6_move 204 = .ok (.iadd, 1) := by decide +kernel
theorem dX6_move_205 : decode cX6_move 205 = .ok (.laload, 1) := by decide +kernel
theorem dX6_move_206 : decode cX6_move 206 = .ok (.lastore, 1) := by decide +kernel
theorem dX6_move_207 : decode cX6_move 207 = .ok (.iinc 6 1, 3) := by decide +kernel
theorem dX6_move_210 : decode cX6_move 210 = .ok (.goto (-33), 3) := by decide +kernel
theorem dX6_move_213 : decode cX6_move 213 = .ok (.iconst 0, 1) := by decide +kernel
theorem dX6_move_214 : decode cX6_move 214 = .ok (.istore 6, 2) := by decide +kernel
theorem dX6_move_216 : decode cX6_move 216 = .ok (.iload 6, 2) := by decide +kernel
theorem dX6_move_218 : decode cX6_move 218 = .ok (.aload_n 0, 1) := by decide +kernel
theorem dX6_move_219 : decode cX6_move 219 = .ok (.getfield 53, 3) := by decide +kernel
theorem dX6_move_222 : decode cX6_move 222 = .ok (.iload 4, 2) := by decide +kernel
theorem dX6_move_224 : decode cX6_move 224 = .ok (.iaload, 1) := by decide +kernel
theorem dX6_move_225 : decode cX6_move 225 = .ok (.if_icmp .ge 113, 3) := by decide +kernel
theorem dX6_move_228 : decode cX6_move 228 = .ok (.aload_n 0, 1) := by decide +kernel
theorem dX6_move_229 : decode cX6_move 229 = .ok (.getfield 118, 3) := by decide +kernel
theorem dX6_move_232 : decode cX6_move 232 = .ok (.bipush 12, 2) := by decide +kernel
theorem dX6_move_234 : decode cX6_move 234 = .ok (.iload 5, 2) := by decide +kernel
theorem dX6_move_236 : decode cX6_move 236 = .ok (.imul, 1) := by decide +kernel
theorem dX6_move_237 : decode cX6_move 237 = .ok (.iload 6, 2) := by decide +kernel
theorem dX6_move_239 : decode cX6_move 239 = .ok (.iadd, 1) := by decide +kernel
theorem dX6_move_240 : decode cX6_move 240 = .ok (.aload_n 0, 1) := by decide +kernel
theorem dX6_move_241 : decode cX6_move 241 = .ok (.getfield 56, 3) := by decide +kernel
theorem dX6_move_244 : decode cX6_move 244 = .ok (.bipush 12, 2) := by decide +kernel
theorem dX6_move_246 : decode cX6_move 246 = .ok (.iload 4, 2) := by decide +kernel
theorem dX6_move_248 : decode cX6_move 248 = .ok (.imul, 1) := by decide +kernel
theorem dX6_move_249 : decode cX6_move 249 = .ok (.iload 6, 2) := by decide +kernel
theorem dX6_move_251 : decode cX6_move 251 = .ok (.iadd, 1) := by decide +kernel
theorem dX6_move_252 : decode cX6_move 252 = .ok (.iaload, 1) := by decide +kernel
theorem dX6_move_253 : decode cX6_move 253 = .ok (.iastore, 1) := by decide +kernel
theorem dX6_move_254 : decode cX6_move 254 = .ok (.aload_n 0, 1) := by decide +kernel
theorem dX6_move_255 : decode cX6_move 255 = .ok (.getfield 121, 3) := by decide +kernel
theorem dX6_move_258 : decode cX6_move 258 = .ok (.bipush 12, 2) := by decide +kernel
theorem dX6_move_260 : decode cX6_move 260 = .ok (.iload 5, 2) := by decide +kernel
theorem dX6_move_262 : decode cX6_move 262 = .ok (.imul, 1) := by decide +kernel
theorem dX6_move_263 : decode cX6_move 263 = .ok (.iload 6, 2) := by decide +kernel
theorem dX6_move_265 : decode cX6_move 265 = .ok (.iadd, 1) := by decide +kernel
theorem dX6_move_266 : decode cX6_move 266 = .ok (.aload_n 0, 1) := by decide +kernel
theorem dX6_move_267 : decode cX6_move 267 = .ok (.getfield 59, 3) := by decide +kernel
theorem dX6_move_270 : decode cX6_move 270 = .ok (.bipush 12, 2) := by decide +kernel
theorem dX6_move_272 : decode cX6_move 272 = .ok (.iload 4, 2) := by decide +kernel
theorem dX6_move_274 : decode cX6_move 274 = .ok (.imul, 1) := by decide +kernel
theorem dX6_move_275 : decode cX6_move 275 = .ok (.iload 6, 2) := by decide +kernel
theorem dX6_move_277 : decode cX6_move 277 = .ok (.iadd, 1) := by decide +kernel
theorem dX6_move_278 : decode cX6_move 278 = .ok (.iaload, 1) := by decide +kernel
theorem dX6_move_279 : decode cX6_move 279 = .ok (.iastore, 1) := by decide +kernel
theorem dX6_move_280 : decode cX6_move 280 = .ok (.aload_n 0, 1) := by decide +kernel
theorem dX6_move_281 : decode cX6_move 281 = .ok (.getfield 124, 3) := by decide +kernel
theorem dX6_move_284 : decode cX6_move 284 = .ok (.bipush 12, 2) := by decide +kernel
theorem dX6_move_286 : decode cX6_move 286 = .ok (.iload 5, 2) := by decide +kernel
theorem dX6_move_288 : decode cX6_move 288 = .ok (.imul, 1) := by decide +kernel
theorem dX6_move_289 : decode cX6_move 289 = .ok (.iload 6, 2) := by decide +kernel
theorem dX6_move_291 : decode cX6_move 291 = .ok (.iadd, 1) := by decide +kernel
theorem dX6_move_292 : decode cX6_move 292 = .ok (.aload_n 0, 1) := by decide +kernel
theorem dX6_move_293 : decode cX6_move 293 = .ok (.getfield 62, 3) := by decide +kernel
theorem dX6_move_296 : decode cX6_move 296 = .ok (.bipush 12, 2) := by decide +kernel
theorem dX6_move_298 : decode cX6_move 298 = .ok (.iload 4, 2) := by decide +kernel
theorem dX6_move_300 : decode cX6_move 300 = .ok (.imul, 1) := by decide +kernel
theorem dX6_move_301 : decode cX6_move 301 = .ok (.iload 6, 2) := by decide +kernel
theorem dX6_move_303 : decode cX6_move 303 = .ok (.iadd, 1) := by decide +kernel
theorem dX6_move_304 : decode cX6_move 304 = .ok (.iaload, 1) := by decide +kernel
theorem dX6_move_305 : decode cX6_move 305 = .ok (.iastore, 1) := by decide +kernel
theorem dX6_move_306 : decode cX6_move 306 = .ok (.aload_n 0, 1) := by decide +kernel
theorem dX6_move_307 : decode cX6_move 307 = .ok (.getfield 127, 3) := by decide +kernel
theorem dX6_move_310 : decode cX6_move 310 = .ok (.bipush 12, 2) := by decide +kernel
theorem dX6_move_312 : decode cX6_move 312 = .ok (.iload 5, 2) := by decide +kernel
theorem dX6_move_314 : decode cX6_move 314 = .ok (.imul, 1) := by decide +kernel
theorem dX6_move_315 : decode cX6_move 315 = .ok (.iload 6, 2) := by decide +kernel
theorem dX6_move_317 : decode cX6_move 317 = .ok (.iadd, 1) := by decide +kernel
theorem dX6_move_318 : decode cX6_move 318 = .ok (.aload_n 0, 1) := by decide +kernel
theorem dX6_move_319 : decode cX6_move 319 = .ok (.getfield 65, 3) := by decide +kernel
theorem dX6_move_322 : decode cX6_move 322 = .ok (.bipush 12, 2) := by decide +kernel
theorem dX6_move_324 : decode cX6_move 324 = .ok (.iload 4, 2) := by decide +kernel
theorem dX6_move_326 : decode cX6_move 326 = .ok (.imul, 1) := by decide +kernel
theorem dX6_move_327 : decode cX6_move 327 = .ok (.iload 6, 2) := by decide +kernel
theorem dX6_move_329 : decode cX6_move 329 = .ok (.iadd, 1) := by decide +kernel
theorem dX6_move_330 : decode cX6_move 330 = .ok (.laload, 1) := by decide +kernel
theorem dX6_move_331 : decode cX6_move 331 = .ok (.lastore, 1) := by decide +kernel
theorem dX6_move_332 : decode cX6_move 332 = .ok (.iinc 6 1, 3) := by decide +kernel
theorem dX6_move_335 : decode cX6_move 335 = .ok (.goto (-119), 3) := by decide +kernel
theorem dX6_move_338 : decode cX6_move 338 = .ok (.iconst 0, 1) := by decide +kernel
theorem dX6_move_339 : decode cX6_move 339 = .ok (.istore 6, 2) := by decide +kernel
theorem dX6_move_341 : decode cX6_move 341 = .ok (.iload 6, 2) := by decide +kernel
theorem dX6_move_343 : decode cX6_move 343 = .ok (.bipush 6, 2) := by decide +kernel
theorem dX6_move_345 : decode cX6_move 345 = .ok (.if_icmp .ge 61, 3) := by decide +kernel
theorem dX6_move_348 : decode cX6_move 348 = .ok (.aload_n 0, 1) := by decide +kernel
theorem dX6_move_349 : decode cX6_move 349 = .ok (.getfield 130, 3) := by decide +kernel
theorem dX6_move_352 : decode cX6_move 352 = .ok (.bipush 6, 2) := by decide +kernel
theorem dX6_move_354 : decode cX6_move 354 = .ok (.iload 5, 2) := by decide +kernel
theorem dX6_move_356 : decode cX6_move 356 = .ok (.imul, 1) := by decide +kernel
theorem dX6_move_357 : decode cX6_move 357 = .ok (.iload 6, 2) := by decide +kernel
theorem dX6_move_359 : decode cX6_move 359 = .ok (.iadd, 1) := by decide +kernel
theorem dX6_move_360 : decode cX6_move 360 = .ok (.aload_n 0, 1) := by decide +kernel
theorem dX6_move_361 : decode cX6_move 361 = .ok (.getfield 68, 3) := by decide +kernel
theorem dX6_move_364 : decode cX6_move 364 = .ok (.bipush 6, 2) := by decide +kernel
theorem dX6_move_366 : decode cX6_move 366 = .ok (.iload 4, 2) := by decide +kernel
theorem dX6_move_368 : decode cX6_move 368 = .ok (.imul, 1) := by decide +kernel
theorem dX6_move_369 : decode cX6_move 369 = .ok (.iload 6, 2) := by decide +kernel
theorem dX6_move_371 : decode cX6_move 371 = .ok (.iadd, 1) := by decide +kernel
theorem dX6_move_372 : decode cX6_move 372 = .ok (.iaload, 1) := by decide +kernel
theorem dX6_move_373 : decode cX6_move 373 = .ok (.iastore, 1) := by decide +kernel
theorem dX6_move_374 : decode cX6_move 374 = .ok (.aload_n 0, 1) := by decide +kernel
theorem dX6_move_375 : decode cX6_move 375 = .ok (.getfield 133, 3) := by decide +kernel
theorem dX6_move_378 : decode cX6_move 378 = .ok (.bipush 6, 2) := by decide +kernel
theorem dX6_move_380 : decode cX6_move 380 = .ok (.iload 5, 2) := by decide +kernel
theorem dX6_move_382 : decode cX6_move 382 = .ok (.imul, 1) := by decide +kernel
theorem dX6_move_383 : decode cX6_move 383 = .ok (.iload 6, 2) := by decide +kernel
theorem dX6_move_385 : decode cX6_move 385 = .ok (.iadd, 1) := by decide +kernel
theorem dX6_move_386 : decode cX6_move 386 = .ok (.aload_n 0, 1) := by decide +kernel
theorem dX6_move_387 : decode cX6_move 387 = .ok (.getfield 71, 3) := by decide +kernel
theorem dX6_move_390 : decode cX6_move 390 = .ok (.bipush 6, 2) := by decide +kernel
theorem dX6_move_392 : decode cX6_move 392 = .ok (.iload 4, 2) := by decide +kernel
theorem dX6_move_394 : decode cX6_move 394 = .ok (.imul, 1) := by decide +kernel
theorem dX6_move_395 : decode cX6_move 395 = .ok (.iload 6, 2) := by decide +kernel
theorem dX6_move_397 : decode cX6_move 397 = .ok (.iadd, 1) := by decide +kernel
theorem dX6_move_398 : decode cX6_move 398 = .ok (.iaload, 1) := by decide +kernel
theorem dX6_move_399 : decode cX6_move 399 = .ok (.iastore, 1) := by decide +kernel
theorem dX6_move_400 : decode cX6_move 400 = .ok (.iinc 6 1, 3) := by decide +kernel
theorem dX6_move_403 : decode cX6_move 403 = .ok (.goto (-62), 3) := by decide +kernel
theorem dX6_move_406 : decode cX6_move 406 = .ok (.aload_n 0, 1) := by decide +kernel
theorem dX6_move_407 : decode cX6_move 407 = .ok (.iload_n 1, 1) := by decide +kernel
theorem dX6_move_408 : decode cX6_move 408 = .ok (.iload 5, 2) := by decide +kernel
theorem dX6_move_410 : decode cX6_move 410 = .ok (.invokevirtual 210, 3) := by decide +kernel
theorem dX6_move_413 : decode cX6_move 413 = .ok (.aload_n 0, 1) := by decide +kernel
theorem dX6_move_414 : decode cX6_move 414 = .ok (.getfield 44, 3) := by decide +kernel
theorem dX6_move_417 : decode cX6_move 417 = .ok (.iload 4, 2) := by decide +kernel
theorem dX6_move_419 : decode cX6_move 419 = .ok (.iaload, 1) := by decide +kernel
theorem dX6_move_420 : decode cX6_move 420 = .ok (.iconst 1, 1) := by decide +kernel
theorem dX6_move_421 : decode cX6_move 421 = .ok (.iadd, 1) := by decide +kernel
theorem dX6_move_422 : decode cX6_move 422 = .ok (.ireturn, 1) := by decide +kernel
theorem dX6_collect_0 : decode cX6_collect 0 = .ok (.aload_n 0, 1) := by decide +kernel
theorem dX6_collect_1 : decode cX6_collect 1 = .ok (.iload_n 1, 1) := by decide +kernel
theorem dX6_collect_2 : decode cX6_collect 2 = .ok (.invokevirtual 201, 3) := by decide +kernel
theorem dX6_collect_5 : decode cX6_collect 5 = .ok (.ifCond .ne 5, 3) := by decide +kernel
theorem dX6_collect_8 : decode cX6_collect 8 = .ok (.iconst (-1), 1) := by decide +kernel
theorem dX6_collect_9 : decode cX6_collect 9 = .ok (.ireturn, 1) := by decide +kernel
theorem dX6_collect_10 : decode cX6_collect 10 = .ok (.aload_n 0, 1) := by decide +kernel
theorem dX6_collect_11 : decode cX6_collect 11 = .ok (.getfield 74, 3) := by decide +kernel
theorem dX6_collect_14 : decode cX6_collect 14 = .ok (.iload_n 1, 1) := by decide +kernel
theorem dX6_collect_15 : decode cX6_collect 15 = .ok (.baload, 1) := by decide +kernel
theorem dX6_collect_16 : decode cX6_collect 16 = .ok (.ifCond .ne 6, 3) := by decide +kernel
theorem dX6_collect_19 : decode cX6_collect 19 = .ok (.bipush (-3), 2) := by decide +kernel
theorem dX6_collect_21 : decode cX6_collect 21 = .ok (.ireturn, 1) := by decide +kernel
theorem dX6_collect_22 : decode cX6_collect 22 = .ok (.iconst 0, 1) := by decide +kernel
theorem dX6_collect_23 : decode cX6_collect 23 = .ok (.istore_n 2, 1) := by decide +kernel
theorem dX6_collect_24 : decode cX6_collect 24 = .ok (.iconst 0, 1) := by decide +kernel
theorem dX6_collect_25 : decode cX6_collect 25 = .ok (.istore_n 3, 1) := by decide +kernel
theorem dX6_collect_26 : decode cX6_collect 26 = .ok (.iload_n 3, 1) := by decide +kernel
theorem dX6_collect_27 : decode cX6_collect 27 = .ok (.bipush 8, 2) := by decide +kernel
theorem dX6_collect_29 : decode cX6_collect 29 = .ok (.if_icmp .ge 84, 3) := by decide +kernel
theorem dX6_collect_32 : decode cX6_collect 32 = .ok (.bipush 16, 2) := by decide +kernel
theorem dX6_collect_34 : decode cX6_collect 34 = .ok (.iload_n 1, 1) := by decide +kernel
theorem dX6_collect_35 : decode cX6_collect 35 = .ok (.imul, 1) := by decide +kernel
theorem dX6_collect_36 : decode cX6_collect 36 = .ok (.iload_n 3, 1) := by decide +kernel
theorem dX6_collect_37 : decode cX6_collect 37 = .ok (.iadd, 1) := by decide +kernel
theorem dX6_collect_38 : decode cX6_collect 38 = .ok (.istore 4, 2) := by decide +kernel
theorem dX6_collect_40 : decode cX6_collect 40 = .ok (.aload_n 0, 1) := by decide +kernel
theorem dX6_collect_41 : decode cX6_collect 41 = .ok (.getfield 53, 3) := by decide +kernel
theorem dX6_collect_44 : decode cX6_collect 44 = .ok (.iload 4, 2) := by decide +kernel
theorem dX6_collect_46 : decode cX6_collect 46 = .ok (.iaload, 1) := by decide +kernel
theorem dX6_collect_47 : decode cX6_collect 47 = .ok (.iconst 1, 1) := by decide +kernel
theorem dX6_collect_48 : decode cX6_collect 48 = .ok (.isub, 1) := by decide +kernel
theorem dX6_collect_49 : decode cX6_collect 49 = .ok (.istore 5, 2) := by decide +kernel
theorem dX6_collect_51 : decode cX6_collect 51 = .ok (.iload 5, 2) := by decide +kernel
theorem dX6_collect_53 : decode cX6_collect 53 = .ok (.ifCond .lt 54, 3) := by decide +kernel
theorem dX6_collect_56 : decode cX6_collect 56 = .ok (.aload_n 0, 1) := by decide +kernel
theorem dX6_collect_57 : decode cX6_collect 57 = .ok (.getfield 41, 3) := by decide +kernel
theorem dX6_collect_60 : decode cX6_collect 60 = .ok (.iload 4, 2) := by decide +kernel
theorem dX6_collect_62 : decode cX6_collect 62 = .ok (.iaload, 1) := by decide +kernel
theorem dX6_collect_63 : decode cX6_collect 63 = .ok (.iconst 1, 1) := by decide +kernel
theorem dX6_collect_64 : decode cX6_collect 64 = .ok (.if_icmp .ne 43, 3) := by decide +kernel
theorem dX6_collect_67 : decode cX6_collect 67 = .ok (.aload_n 0, 1) := by decide +kernel
theorem dX6_collect_68 : decode cX6_collect 68 = .ok (.aload_n 0, 1) := by decide +kernel
theorem dX6_collect_69 : decode cX6_collect 69 = .ok (.getfield 59, 3) := by decide +kernel
theorem dX6_collect_72 : decode cX6_collect 72 = .ok (.bipush 12, 2) := by decide +kernel
theorem dX6_collect_74 : decode cX6_collect 74 = .ok (.iload 4, 2) := by decide +kernel
theorem dX6_collect_76 : decode cX6_collect 76 = .ok (.imul, 1) := by decide +kernel
theorem dX6_collect_77 : decode cX6_collect 77 = .ok (.iload 5, 2) := by decide +kernel
theorem dX6_collect_79 : decode cX6_collect 79 = .ok (.iadd, 1) := by decide +kernel
theorem dX6_collect_80 : decode cX6_collect 80 = .ok (.iaload, 1) := by decide +kernel
theorem dX6_collect_81 : decode cX6_collect 81 = .ok (.invokevirtual 179, 3) := by decide +kernel
theorem dX6_collect_84 : decode cX6_collect 84 = .ok (.ifCond .eq 6, 3) := by decide +kernel
theorem dX6_collect_87 : decode cX6_collect 87 = .ok (.goto 14, 3) := by decide +kernel
theorem dX6_collect_90 : decode cX6_collect 90 = .ok (.aload_n 0, 1) := by decide +kernel
theorem dX6_collect_91 : decode cX6_collect 91 = .ok (.iload 4, 2) := by decide +kernel
theorem dX6_collect_93 : decode cX6_collect 93 = .ok (.iload 5, 2) := by decide +kernel
theorem dX6_collect_95 : decode cX6_collect 95 = .ok (.invokevirtual 207, 3) := by decide +kernel
theorem dX6_collect_98 : decode cX6_collect 98 = .ok (.iinc 2 1, 3) := by decide +kernel
theorem dX6_collect_101 : decode cX6_collect 101 = .ok (.iinc 5 (-1), 3) := by decide +kernel
theorem dX6_collect_104 : decode cX6_collect 104 = .ok (.goto (-53), 3) := by decide +kernel
theorem dX6_collect_107 : decode cX6_collect 107 = .ok (.iinc 3 1, 3) := by decide +kernel
theorem dX6_collect_110 : decode cX6_collect 110 = .ok (.goto (-84), 3) := by decide +kernel
theorem dX6_collect_113 : decode cX6_collect 113 = .ok (.aload_n 0, 1) := by decide +kernel
theorem dX6_collect_114 : decode cX6_collect 114 = .ok (.getfield 78, 3) := by decide +kernel
theorem dX6_collect_117 : decode cX6_collect 117 = .ok (.iload_n 1, 1) := by decide +kernel
theorem dX6_collect_118 : decode cX6_collect 118 = .ok (.dup2, 1) := by decide +kernel
theorem dX6_collect_119 : decode cX6_collect 119 = .ok (.baload, 1) := by decide +kernel
theorem dX6_collect_120 : decode cX6_collect 120 = .ok (.iload_n 2, 1) := by decide +kernel
theorem dX6_collect_121 : decode cX6_collect 121 = .ok (.ifCond .le 7, 3) := by decide +kernel
theorem dX6_collect_124 : decode cX6_collect 124 = .ok (.iconst 1, 1) := by decide +kernel
theorem dX6_collect_125 : decode cX6_collect 125 = .ok (.goto 4, 3) := by decide +kernel
theorem dX6_collect_128 : decode cX6_collect 128 = .ok (.iconst 0, 1) := by decide +kernel
theorem dX6_collect_129 : decode cX6_collect 129 = .ok (.ior, 1) := by decide +kernel
theorem dX6_collect_130 : decode cX6_collect 130 = .ok (.bastore, 1) := by decide +kernel
theorem dX6_collect_131 : decode cX6_collect 131 = .ok (.iload_n 2, 1) := by decide +kernel
theorem dX6_collect_132 : decode cX6_collect 132 = .ok (.ireturn, 1) := by decide +kernel
theorem dX6_ticks_0 : decode cX6_ticks 0 = .ok (.iload_n 1, 1) := by decide +kernel
theorem dX6_ticks_1 : decode cX6_ticks 1 = .ok (.iconst 0, 1) := by decide +kernel
theorem dX6_ticks_2 : decode cX6_ticks 2 = .ok (.sipush 1000, 3) := by decide +kernel
theorem dX6_ticks_5 : decode cX6_ticks 5 = .ok (.invokestatic 152, 3) := by decide +kernel
theorem dX6_ticks_8 : decode cX6_ticks 8 = .ok (.ifCond .ne 5, 3) := by decide +kernel
theorem dX6_ticks_11 : decode cX6_ticks 11 = .ok (.iconst (-1), 1) := by decide +kernel
theorem dX6_ticks_12 : decode cX6_ticks 12 = .ok (.ireturn, 1) := by decide +kernel
theorem dX6_ticks_13 : decode cX6_ticks 13 = .ok (.aload_n 0, 1) := by decide +kernel
theorem dX6_ticks_14 : decode cX6_ticks 14 = .ok (.dup, 1) := by decide +kernel
theorem dX6_ticks_15 : decode cX6_ticks 15 = .ok (.getfield 156, 3) := by decide +kernel
theorem dX6_ticks_18 : decode cX6_ticks 18 = .ok (.iload_n 1, 1) := by decide +kernel
theorem dX6_ticks_19 : decode cX6_ticks 19 = .ok (.iadd, 1) := by decide +kernel
theorem dX6_ticks_20 : decode cX6_ticks 20 = .ok (.putfield 156, 3) := by decide +kernel
theorem dX6_ticks_23 : decode cX6_ticks 23 = .ok (.aload_n 0, 1) := by decide +kernel
theorem dX6_ticks_24 : decode cX6_ticks 24 = .ok (.getfield 156, 3) := by decide +kernel
theorem dX6_ticks_27 : decode cX6_ticks 27 = .ok (.ireturn, 1) := by decide +kernel
theorem dX6_store_0 : decode cX6_store 0 = .ok (.aload_n 0, 1) := by decide +kernel
theorem dX6_store_1 : decode cX6_store 1 = .ok (.getfield 74, 3) := by decide +kernel
theorem dX6_store_4 : decode cX6_store 4 = .ok (.iload_n 1, 1) := by decide +kernel
theorem dX6_store_5 : decode cX6_store 5 = .ok (.baload, 1) := by decide +kernel
theorem dX6_store_6 : decode cX6_store 6 = .ok (.ifCond .eq 10, 3) := by decide +kernel
theorem dX6_store_9 : decode cX6_store 9 = .ok (.bipush 16, 2) := by decide +kernel
theorem dX6_store_11 : decode cX6_store 11 = .ok (.iload_n 1, 1) := by decide +kernel
theorem dX6_store_12 : decode cX6_store 12 = .ok (.imul, 1) := by decide +kernel
theorem dX6_store_13 : decode cX6_store 13 = .ok (.goto 10, 3) := by decide +kernel
theorem dX6_store_16 : decode cX6_store 16 = .ok (.bipush 16, 2) := by decide +kernel
theorem dX6_store_18 : decode cX6_store 18 = .ok (.iload_n 1, 1) := by decide +kernel
theorem dX6_store_19 : decode cX6_store 19 = .ok (.imul, 1) := by decide +kernel
theorem dX6_store_20 : decode cX6_store 20 = .ok (.bipush 8, 2) := by decide +kernel
theorem dX6_store_22 : decode cX6_store 22 = .ok (.iadd, 1) := by decide +kernel
theorem dX6_store_23 : decode cX6_store 23 = .ok (.ireturn, 1) := by decide +kernel
theorem dX6_server_0 : decode cX6_server 0 = .ok (.aload_n 0, 1) := by decide +kernel
theorem dX6_server_1 : decode cX6_server 1 = .ok (.iload_n 1, 1) := by decide +kernel
theorem dX6_server_2 : decode cX6_server 2 = .ok (.invokevirtual 201, 3) := by decide +kernel
theorem dX6_server_5 : decode cX6_server 5 = .ok (.ifCond .ne 5, 3) := by decide +kernel
theorem dX6_server_8 : decode cX6_server 8 = .ok (.iconst (-1), 1) := by decide +kernel
theorem dX6_server_9 : decode cX6_server 9 = .ok (.ireturn, 1) := by decide +kernel
theorem dX6_server_10 : decode cX6_server 10 = .ok (.iconst 0, 1) := by decide +kernel
theorem dX6_server_11 : decode cX6_server 11 = .ok (.istore_n 3, 1) := by decide +kernel
theorem dX6_server_12 : decode cX6_server 12 = .ok (.iload_n 2, 1) := by decide +kernel
theorem dX6_server_13 : decode cX6_server 13 = .ok (.tableswitch 119 0 3 #[31, 46, 70, 77], 31) := by decide +kernel
theorem dX6_server_44 : decode cX6_server 44 = .ok (.aload_n 0, 1) := by decide +kernel
theorem dX6_server_45 : decode cX6_server 45 = .ok (.getfield 74, 3) := by decide +kernel
theorem dX6_server_48 : decode cX6_server 48 = .ok (.iload_n 1, 1) := by decide +kernel
theorem dX6_server_49 : decode cX6_server 49 = .ok (.baload, 1) := by decide +kernel
theorem dX6_server_50 : decode cX6_server 50 = .ok (.ifCond .eq 7, 3) := by decide +kernel
theorem dX6_server_53 : decode cX6_server 53 = .ok (.iconst 1, 1) := by decide +kernel
theorem dX6_server_54 : decode cX6_server 54 = .ok (.goto 4, 3) := by decide +kernel
theorem dX6_server_57 : decode cX6_server 57 = .ok (.iconst 0, 1) := by decide +kernel
theorem dX6_server_58 : decode cX6_server 58 = .ok (.ireturn, 1) := by decide +kernel
theorem dX6_server_59 : decode cX6_server 59 = .ok (.aload_n 0, 1) := by decide +kernel
theorem dX6_server_60 : decode cX6_server 60 = .ok (.getfield 74, 3) := by decide +kernel
theorem dX6_server_63 : decode cX6_server 63 = .ok (.iload_n 1, 1) := by decide +kernel
theorem dX6_server_64 : decode cX6_server 64 = .ok (.baload, 1) := by decide +kernel
theorem dX6_server_65 : decode cX6_server 65 = .ok (.ifCond .eq 16, 3) := by decide +kernel
theorem dX6_server_68 : decode cX6_server 68 = .ok (.aload_n 0, 1) := by decide +kernel
theorem dX6_server_69 : decode cX6_server 69 = .ok (.getfield 78, 3) := by decide +kernel
theorem dX6_server_72 : decode cX6_server 72 = .ok (.iload_n 1, 1) := by decide +kernel
theorem dX6_server_73 : decode cX6_server 73 = .ok (.baload, 1) := by decide +kernel
theorem dX6_server_74 : decode cX6_server 74 = .ok (.ifCond .ne 7, 3) := by decide +kernel
theorem dX6_server_77 : decode cX6_server 77 = .ok (.iconst 1, 1) := by decide +kernel
theorem dX6_server_78 : decode cX6_server 78 = .ok (.goto 4, 3) := by decide +kernel
theorem dX6_server_81 : decode cX6_server 81 = .ok (.iconst 0, 1) := by decide +kernel
theorem dX6_server_82 : decode cX6_server 82 = .ok (.ireturn, 1) := by decide +kernel
theorem dX6_server_83 : decode cX6_server 83 = .ok (.aload_n 0, 1) := by decide +kernel
theorem dX6_server_84 : decode cX6_server 84 = .ok (.getfield 142, 3) := by decide +kernel
theorem dX6_server_87 : decode cX6_server 87 = .ok (.iload_n 1, 1) := by decide +kernel
theorem dX6_server_88 : decode cX6_server 88 = .ok (.iaload, 1) := by decide +kernel
theorem dX6_server_89 : decode cX6_server 89 = .ok (.ireturn, 1) := by decide +kernel
theorem dX6_server_90 : decode cX6_server 90 = .ok (.iconst 0, 1) := by decide +kernel
theorem dX6_server_91 : decode cX6_server 91 = .ok (.istore 4, 2) := by decide +kernel
theorem dX6_server_93 : decode cX6_server 93 = .ok (.iload 4, 2) := by decide +kernel
theorem dX6_server_95 : decode cX6_server 95 = .ok (.bipush 8, 2) := by decide +kernel
theorem dX6_server_97 : decode cX6_server 97 = .ok (.if_icmp .ge 33, 3) := by decide +kernel
theorem dX6_server_100 : decode cX6_server 100 = .ok (.aload_n 0, 1) := by decide +kernel
theorem dX6_server_101 : decode cX6_server 101 = .ok (.getfield 74, 3) := by decide +kernel
theorem dX6_server_104 : decode cX6_server 104 = .ok (.iload_n 1, 1) := by decide +kernel
theorem dX6_server_105 : decode cX6_server 105 = .ok (.baload, 1) := by decide +kernel
theorem dX6_server_106 : decode cX6_server 106 = .ok (.ifCond .eq 24, 3) := by decide +kernel
theorem dX6_server_109 : decode cX6_server 109 = .ok (.iload_n 3, 1) := by decide +kernel
theorem dX6_server_110 : decode cX6_server 110 = .ok (.aload_n 0, 1) := by decide +kernel
theorem dX6_server_111 : decode cX6_server 111 = .ok (.getfield 53, 3) := by decide +kernel
theorem dX6_server_114 : decode cX6_server 114 = .ok (.bipush 16, 2) := by decide +kernel
theorem dX6_server_116 : decode cX6_server 116 = .ok (.iload_n 1, 1) := by decide +kernel
theorem dX6_server_117 : decode cX6_server 117 = .ok (.imul, 1) := by decide +kernel
theorem dX6_server_118 : decode cX6_server 118 = .ok (.iload 4, 2) := by decide +kernel
theorem dX6_server_120 : decode cX6_server 120 = .ok (.iadd, 1) := by decide +kernel
theorem dX6_server_121 : decode cX6_server 121 = .ok (.iaload, 1) := by decide +kernel
theorem dX6_server_122 : decode cX6_server 122 = .ok (.iadd, 1) := by decide +kernel
theorem dX6_server_123 : decode cX6_server 123 = .ok (.istore_n 3, 1) := by decide +kernel
theorem dX6_server_124 : decode cX6_server 124 = .ok (.iinc 4 1, 3) := by decide +kernel
theorem dX6_server_127 : decode cX6_server 127 = .ok (.goto (-34), 3) := by decide +kernel
theorem dX6_server_130 : decode cX6_server 130 = .ok (.iload_n 3, 1) := by decide +kernel
theorem dX6_server_131 : decode cX6_server 131 = .ok (.ireturn, 1) := by decide +kernel
theorem dX6_server_132 : decode cX6_server 132 = .ok (.iconst (-1), 1) := by decide +kernel
theorem dX6_server_133 : decode cX6_server 133 = .ok (.ireturn, 1) := by decide +kernel
theorem dX6_bucket_0 : decode cX6_bucket 0 = .ok (.aload_n 0, 1) := by decide +kernel
theorem dX6_bucket_1 : decode cX6_bucket 1 = .ok (.iload_n 1, 1) := by decide +kernel
theorem dX6_bucket_2 : decode cX6_bucket 2 = .ok (.invokevirtual 201, 3) := by decide +kernel
theorem dX6_bucket_5 : decode cX6_bucket 5 = .ok (.ifCond .eq 13, 3) := by decide +kernel
theorem dX6_bucket_8 : decode cX6_bucket 8 = .ok (.iload_n 2, 1) := by decide +kernel
theorem dX6_bucket_9 : decode cX6_bucket 9 = .ok (.iconst 0, 1) := by decide +kernel
theorem dX6_bucket_10 : decode cX6_bucket 10 = .ok (.bipush 7, 2) := by decide +kernel
theorem dX6_bucket_12 : decode cX6_bucket 12 = .ok (.invokestatic 152, 3) := by decide +kernel
theorem dX6_bucket_15 : decode cX6_bucket 15 = .ok (.ifCond .ne 5, 3) := by decide +kernel
theorem dX6_bucket_18 : decode cX6_bucket 18 = .ok (.iconst (-1), 1) := by decide +kernel
theorem dX6_bucket_19 : decode cX6_bucket 19 = .ok (.ireturn, 1) := by decide +kernel
theorem dX6_bucket_20 : decode cX6_bucket 20 = .ok (.aload_n 0, 1) := by decide +kernel
theorem dX6_bucket_21 : decode cX6_bucket 21 = .ok (.iload_n 1, 1) := by decide +kernel
theorem dX6_bucket_22 : decode cX6_bucket 22 = .ok (.invokevirtual 246, 3) := by decide +kernel
theorem dX6_bucket_25 : decode cX6_bucket 25 = .ok (.iload_n 2, 1) := by decide +kernel
theorem dX6_bucket_26 : decode cX6_bucket 26 = .ok (.iadd, 1) := by decide +kernel
theorem dX6_bucket_27 : decode cX6_bucket 27 = .ok (.istore 4, 2) := by decide +kernel
theorem dX6_bucket_29 : decode cX6_bucket 29 = .ok (.iload_n 3, 1) := by decide +kernel
theorem dX6_bucket_30 : decode cX6_bucket 30 = .ok (.bipush 10, 2) := by decide +kernel
theorem dX6_bucket_32 : decode cX6_bucket 32 = .ok (.bipush 15, 2) := by decide +kernel
theorem dX6_bucket_34 : decode cX6_bucket 34 = .ok (.invokestatic 152, 3) := by decide +kernel
theorem dX6_bucket_37 : decode cX6_bucket 37 = .ok (.ifCond .eq 19, 3) := by decide +kernel
theorem dX6_bucket_40 : decode cX6_bucket 40 = .ok (.aload_n 0, 1) := by decide +kernel
theorem dX6_bucket_41 : decode cX6_bucket 41 = .ok (.getfield 68, 3) := by decide +kernel
theorem dX6_bucket_44 : decode cX6_bucket 44 = .ok (.bipush 6, 2) := by decide +kernel
theorem dX6_bucket_46 : decode cX6_bucket 46 = .ok (.iload 4, 2) := by decide +kernel
theorem dX6_bucket_48 : decode cX6_bucket 48 = .ok (.imul, 1) := by decide +kernel
theorem dX6_bucket_49 : decode cX6_bucket 49 = .ok (.iload_n 3, 1) := by decide +kernel
theorem dX6_bucket_50 : decode cX6_bucket 50 = .ok (.iadd, 1) := by decide +kernel
theorem dX6_bucket_51 : decode cX6_bucket 51 = .ok (.bipush 10, 2) := by decide +kernel
theorem dX6_bucket_53 : decode cX6_bucket 53 = .ok (.isub, 1) := by decide +kernel
theorem dX6_bucket_54 : decode cX6_bucket 54 = .ok (.iaload, 1) := by decide +kernel
theorem dX6_bucket_55 : decode cX6_bucket 55 = .ok (.ireturn, 1) := by decide +kernel
theorem dX6_bucket_56 : decode cX6_bucket 56 = .ok (.iload_n 3, 1) := by decide +kernel
theorem dX6_bucket_57 : decode cX6_bucket 57 = .ok (.bipush 20, 2) := by decide +kernel
theorem dX6_bucket_59 : decode cX6_bucket 59 = .ok (.bipush 25, 2) := by decide +kernel
theorem dX6_bucket_61 : decode cX6_bucket 61 = .ok (.invokestatic 152, 3) := by decide +kernel
theorem dX6_bucket_64 : decode cX6_bucket 64 = .ok (.ifCond .eq 19, 3) := by decide +kernel
theorem dX6_bucket_67 : decode cX6_bucket 67 = .ok (.aload_n 0, 1) := by decide +kernel
theorem dX6_bucket_68 : decode cX6_bucket 68 = .ok (.getfield 71, 3) := by decide +kernel
theorem dX6_bucket_71 : decode cX6_bucket 71 = .ok (.bipush 6, 2) := by decide +kernel
theorem dX6_bucket_73 : decode cX6_bucket 73 = .ok (.iload 4, 2) := by decide +kernel
theorem dX6_bucket_75 : decode cX6_bucket 75 = .ok (.imul, 1) := by decide +kernel
theorem dX6_bucket_76 : decode cX6_bucket 76 = .ok (.iload_n 3, 1) := by decide +kernel
theorem dX6_bucket_77 : decode cX6_bucket 77 = .ok (.iadd, 1) := by decide +kernel
theorem dX6_bucket_78 : decode cX6_bucket 78 = .ok (.bipush 20, 2) := by decide +kernel
theorem dX6_bucket_80 : decode cX6_bucket 80 = .ok (.isub, 1) := by decide +kernel
theorem dX6_bucket_81 : decode cX6_bucket 81 = .ok (.iaload, 1) := by decide +kernel
theorem dX6_bucket_82 : decode cX6_bucket 82 = .ok (.ireturn, 1) := by decide +kernel
theorem dX6_bucket_83 : decode cX6_bucket 83 = .ok (.iload_n 3, 1) := by decide +kernel
theorem dX6_bucket_84 : decode cX6_bucket 84 = .ok (.tableswitch 64 0 3 #[32, 40, 48, 56], 32) := by decide +kernel
theorem dX6_bucket_116 : decode cX6_bucket 116 = .ok (.aload_n 0, 1) := by decide +kernel
theorem dX6_bucket_117 : decode cX6_bucket 117 = .ok (.getfield 41, 3) := by decide +kernel
theorem dX6_bucket_120 : decode cX6_bucket 120 = .ok (.iload 4, 2) := by decide +kernel
theorem dX6_bucket_122 : decode cX6_bucket 122 = .ok (.iaload, 1) := by decide +kernel
theorem dX6_bucket_123 : decode cX6_bucket 123 = .ok (.ireturn, 1) := by decide +kernel
theorem dX6_bucket_124 : decode cX6_bucket 124 = .ok (.aload_n 0, 1) := by decide +kernel
theorem dX6_bucket_125 : decode cX6_bucket 125 = .ok (.getfield 44, 3) := by decide +kernel
theorem dX6_bucket_128 : decode cX6_bucket 128 = .ok (.iload 4, 2) := by decide +kernel
theorem dX6_bucket_130 : decode cX6_bucket 130 = .ok (.iaload, 1) := by decide +kernel
theorem dX6_bucket_131 : decode cX6_bucket 131 = .ok (.ireturn, 1) := by decide +kernel
theorem dX6_bucket_132 : decode cX6_bucket 132 = .ok (.aload_n 0, 1) := by decide +kernel
theorem dX6_bucket_133 : decode cX6_bucket 133 = .ok (.getfield 47, 3) := by decide +kernel
theorem dX6_bucket_136 : decode cX6_bucket 136 = .ok (.iload 4, 2) := by decide +kernel
theorem dX6_bucket_138 : decode cX6_bucket 138 = .ok (.iaload, 1) := by decide +kernel
theorem dX6_bucket_139 : decode cX6_bucket 139 = .ok (.ireturn, 1) := by decide +kernel
theorem dX6_bucket_140 : decode cX6_bucket 140 = .ok (.aload_n 0, 1) := by decide +kernel
theorem dX6_bucket_141 : decode cX6_bucket 141 = .ok (.getfield 53, 3) := by decide +kernel
theorem dX6_bucket_144 : decode cX6_bucket 144 = .ok (.iload 4, 2) := by decide +kernel
theorem dX6_bucket_146 : decode cX6_bucket 146 = .ok (.iaload, 1) := by decide +kernel
theorem dX6_bucket_147 : decode cX6_bucket 147 = .ok (.ireturn, 1) := by decide +kernel
theorem dX6_bucket_148 : decode cX6_bucket 148 = .ok (.iconst (-1), 1) := by decide +kernel
theorem dX6_bucket_149 : decode cX6_bucket 149 = .ok (.ireturn, 1) := by decide +kernel
theorem dX6_value_0 : decode cX6_value 0 = .ok (.aload_n 0, 1) := by decide +kernel
theorem dX6_value_1 : decode cX6_value 1 = .ok (.iload_n 1, 1) := by decide +kernel
theorem dX6_value_2 : decode cX6_value 2 = .ok (.invokevirtual 201, 3) := by decide +kernel
theorem dX6_value_5 : decode cX6_value 5 = .ok (.ifCond .eq 38, 3) := by decide +kernel
theorem dX6_value_8 : decode cX6_value 8 = .ok (.iload_n 2, 1) := by decide +kernel
theorem dX6_value_9 : decode cX6_value 9 = .ok (.iconst 0, 1) := by decide +kernel
theorem dX6_value_10 : decode cX6_value 10 = .ok (.bipush 31, 2) := by decide +kernel
theorem dX6_value_12 : decode cX6_value 12 = .ok (.invokestatic 152, 3) := by decide +kernel
theorem dX6_value_15 : decode cX6_value 15 = .ok (.ifCond .eq 28, 3) := by decide +kernel
theorem dX6_value_18 : decode cX6_value 18 = .ok (.aload_n 0, 1) := by decide +kernel
theorem dX6_value_19 : decode cX6_value 19 = .ok (.getfield 50, 3) := by decide +kernel
theorem dX6_value_22 : decode cX6_value 22 = .ok (.iconst 4, 1) := by decide +kernel
theorem dX6_value_23 : decode cX6_value 23 = .ok (.aload_n 0, 1) := by decide +kernel
theorem dX6_value_24 : decode cX6_value 24 = .ok (.iload_n 1, 1) := by decide +kernel
theorem dX6_value_25 : decode cX6_value 25 = .ok (.invokevirtual 246, 3) := by decide +kernel
theorem dX6_value_28 : decode cX6_value 28 = .ok (.iload_n 2, 1) := by decide +kernel
theorem dX6_value_29 : decode cX6_value 29 = .ok (.bipush 8, 2) := by decide +kernel
theorem dX6_value_31 : decode cX6_value 31 = .ok (.irem, 1) := by decide +kernel
theorem dX6_value_32 : decode cX6_value 32 = .ok (.iadd, 1) := by decide +kernel
theorem dX6_value_33 : decode cX6_value 33 = .ok (.imul, 1) := by decide +kernel
theorem dX6_value_34 : decode cX6_value 34 = .ok (.iload_n 2, 1) := by decide +kernel
theorem dX6_value_35 : decode cX6_value 35 = .ok (.bipush 8, 2) := by decide +kernel
theorem dX6_value_37 : decode cX6_value 37 = .ok (.idiv, 1) := by decide +kernel
theorem dX6_value_38 : decode cX6_value 38 = .ok (.iadd, 1) := by decide +kernel
theorem dX6_value_39 : decode cX6_value 39 = .ok (.laload, 1) := by decide +kernel
theorem dX6_value_40 : decode cX6_value 40 = .ok (.goto 4, 3) := by decide +kernel
theorem dX6_value_43 : decode cX6_value 43 = .ok (.lconst 0, 1) := by decide +kernel
theorem dX6_value_44 : decode cX6_value 44 = .ok (.lreturn, 1) := by decide +kernel
theorem dX6_record_0 : decode cX6_record 0 = .ok (.aload_n 0, 1) := by decide +kernel
theorem dX6_record_1 : decode cX6_record 1 = .ok (.iload_n 1, 1) := by decide +kernel
theorem dX6_record_2 : decode cX6_record 2 = .ok (.invokevirtual 201, 3) := by decide +kernel
theorem dX6_record_5 : decode cX6_record 5 = .ok (.ifCond .eq 13, 3) := by decide +kernel
theorem dX6_record_8 : decode cX6_record 8 = .ok (.iload_n 2, 1) := by decide +kernel
theorem dX6_record_9 : decode cX6_record 9 = .ok (.iconst 0, 1) := by decide +kernel
theorem dX6_record_10 : decode cX6_record 10 = .ok (.bipush 7, 2) := by decide +kernel
theorem dX6_record_12 : decode cX6_record 12 = .ok (.invokestatic 152, 3) := by decide +kernel
theorem dX6_record_15 : decode cX6_record 15 = .ok (.ifCond .ne 5, 3) := by decide +kernel
theorem dX6_record_18 : decode cX6_record 18 = .ok (.iconst (-1), 1) := by decide +kernel
theorem dX6_record_19 : decode cX6_record 19 = .ok (.ireturn, 1) := by decide +kernel
theorem dX6_record_20 : decode cX6_record 20 = .ok (.aload_n 0, 1) := by decide +kernel
theorem dX6_record_21 : decode cX6_record 21 = .ok (.iload_n 1, 1) := by decide +kernel
theorem dX6_record_22 : decode cX6_record 22 = .ok (.invokevirtual 246, 3) := by decide +kernel
theorem dX6_record_25 : decode cX6_record 25 = .ok (.iload_n 2, 1) := by decide +kernel
theorem dX6_record_26 : decode cX6_record 26 = .ok (.iadd, 1) := by decide +kernel
theorem dX6_record_27 : decode cX6_record 27 = .ok (.istore 5, 2) := by decide +kernel
theorem dX6_record_29 : decode cX6_record 29 = .ok (.iload_n 3, 1) := by decide +kernel
theorem dX6_record_30 : decode cX6_record 30 = .ok (.iconst 0, 1) := by decide +kernel
theorem dX6_record_31 : decode cX6_record 31 = .ok (.aload_n 0, 1) := by decide +kernel
theorem dX6_record_32 : decode cX6_record 32 = .ok (.getfield 53, 3) := by decide +kernel
theorem dX6_record_35 : decode cX6_record 35 = .ok (.iload 5, 2) := by decide +kernel
theorem dX6_record_37 : decode cX6_record 37 = .ok (.iaload, 1) := by decide +kernel
theorem dX6_record_38 : decode cX6_record 38 = .ok (.iconst 1, 1) := by decide +kernel
theorem dX6_record_39 : decode cX6_record 39 = .ok (.isub, 1) := by decide +kernel
theorem dX6_record_40 : decode cX6_record 40 = .ok (.invokestatic 152, 3) := by decide +kernel
theorem dX6_record_43 : decode cX6_record 43 = .ok (.ifCond .ne 5, 3) := by decide +kernel
theorem dX6_record_46 : decode cX6_record 46 = .ok (.iconst (-1), 1) := by decide +kernel
theorem dX6_record_47 : decode cX6_record 47 = .ok (.ireturn, 1) := by decide +kernel
theorem dX6_record_48 : decode cX6_record 48 = .ok (.bipush 12, 2) := by decide +kernel
theorem dX6_record_50 : decode cX6_record 50 = .ok (.iload 5, 2) := by decide +kernel
theorem dX6_record_52 : decode cX6_record 52 = .ok (.imul, 1) := by decide +kernel
theorem dX6_record_53 : decode cX6_record 53 = .ok (.iload_n 3, 1) := by decide +kernel
theorem dX6_record_54 : decode cX6_record 54 = .ok (.iadd, 1) := by decide +kernel
theorem dX6_record_55 : decode cX6_record 55 = .ok (.istore 6, 2) := by decide +kernel
theorem dX6_record_57 : decode cX6_record 57 = .ok (.iload 4, 2) := by decide +kernel
theorem dX6_record_59 : decode cX6_record 59 = .ok (.ifCond .ne 13, 3) := by decide +kernel
theorem dX6_record_62 : decode cX6_record 62 = .ok (.aload_n 0, 1) := by decide +kernel
theorem dX6_record_63 : decode cX6_record 63 = .ok (.getfield 56, 3) := by decide +kernel
theorem dX6_record_66 : decode cX6_record 66 = .ok (.iload 6, 2) := by decide +kernel
theorem dX6_record_68 : decode cX6_record 68 = .ok (.iaload, 1) := by decide +kernel
theorem dX6_record_69 : decode cX6_record 69 = .ok (.goto 36, 3) := by decide +kernel
theorem dX6_record_72 : decode cX6_record 72 = .ok (.iload 4, 2) := by decide +kernel
theorem dX6_record_74 : decode cX6_record 74 = .ok (.iconst 1, 1) := by decide +kernel
theorem dX6_record_75 : decode cX6_record 75 = .ok (.if_icmp .ne 13, 3) := by decide +kernel
theorem dX6_record_78 : decode cX6_record 78 = .ok (.aload_n 0, 1) := by decide +kernel
theorem dX6_record_79 : decode cX6_record 79 = .ok (.getfield 59, 3) := by decide +kernel
theorem dX6_record_82 : decode cX6_record 82 = .ok (.iload 6, 2) := by decide +kernel
theorem dX6_record_84 : decode cX6_record 84 = .ok (.iaload, 1) := by decide +kernel
theorem dX6_record_85 : decode cX6_record 85 = .ok (.goto 20, 3) := by decide +kernel
theorem dX6_record_88 : decode cX6_record 88 = .ok (.iload 4, 2) := by decide +kernel
theorem dX6_record_90 : decode cX6_record 90 = .ok (.iconst 2, 1) := by decide +kernel
theorem dX6_record_91 : decode cX6_record 91 = .ok (.if_icmp .ne 13, 3) := by decide +kernel
theorem dX6_record_94 : decode cX6_record 94 = .ok (.aload_n 0, 1) := by decide +kernel
theorem dX6_record_95 : decode cX6_record 95 = .ok (.getfield 62, 3) := by decide +kernel
theorem dX6_record_98 : decode cX6_record 98 = .ok (.iload 6, 2) := by decide +kernel
theorem dX6_record_100 : decode cX6_record 100 = .ok (.iaload, 1) := by decide +kernel
theorem dX6_record_101 : decode cX6_record 101 = .ok (.goto 4, 3) := by decide +kernel
theorem dX6_record_104 : decode cX6_record 104 = .ok (.iconst (-1), 1) := by decide +kernel
theorem dX6_record_105 : decode cX6_record 105 = .ok (.ireturn, 1) := by decide +kernel
theorem dX6_client_0 : decode cX6_client 0 = .ok (.iload_n 1, 1) := by decide +kernel
theorem dX6_client_1 : decode cX6_client 1 = .ok (.invokestatic 172, 3) := by decide +kernel
theorem dX6_client_4 : decode cX6_client 4 = .ok (.ifCond .ne 5, 3) := by decide +kernel
theorem dX6_client_7 : decode cX6_client 7 = .ok (.iconst (-1), 1) := by decide +kernel
theorem dX6_client_8 : decode cX6_client 8 = .ok (.ireturn, 1) := by decide +kernel
theorem dX6_client_9 : decode cX6_client 9 = .ok (.iload_n 2, 1) := by decide +kernel
theorem dX6_client_10 : decode cX6_client 10 = .ok (.bipush 10, 2) := by decide +kernel
theorem dX6_client_12 : decode cX6_client 12 = .ok (.bipush 17, 2) := by decide +kernel
theorem dX6_client_14 : decode cX6_client 14 = .ok (.invokestatic 152, 3) := by decide +kernel
theorem dX6_client_17 : decode cX6_client 17 = .ok (.ifCond .eq 18, 3) := by decide +kernel
theorem dX6_client_20 : decode cX6_client 20 = .ok (.aload_n 0, 1) := by decide +kernel
theorem dX6_client_21 : decode cX6_client 21 = .ok (.getfield 19, 3) := by decide +kernel
theorem dX6_client_24 : decode cX6_client 24 = .ok (.bipush 8, 2) := by decide +kernel
theorem dX6_client_26 : decode cX6_client 26 = .ok (.iload_n 1, 1) := by decide +kernel
theorem dX6_client_27 : decode cX6_client 27 = .ok (.imul, 1) := by decide +kernel
theorem dX6_client_28 : decode cX6_client 28 = .ok (.iload_n 2, 1) := by decide +kernel
theorem dX6_client_29 : decode cX6_client 29 = .ok (.iadd, 1) := by decide +kernel
theorem dX6_client_30 : decode cX6_client 30 = .ok (.bipush 10, 2) := by decide +kernel
theorem dX6_client_32 : decode cX6_client 32 = .ok (.isub, 1) := by decide +kernel
theorem dX6_client_33 : decode cX6_client 33 = .ok (.iaload, 1) := by decide +kernel
theorem dX6_client_34 : decode cX6_client 34 = .ok (.ireturn, 1) := by decide +kernel
theorem dX6_client_35 : decode cX6_client 35 = .ok (.iload_n 2, 1) := by decide +kernel
theorem dX6_client_36 : decode cX6_client 36 = .ok (.tableswitch 92 0 5 #[40, 47, 54, 73, 80, 86], 40) := by decide +kernel
theorem dX6_client_76 : decode cX6_client 76 = .ok (.aload_n 0, 1) := by decide +kernel
theorem dX6_client_77 : decode cX6_client 77 = .ok (.getfield 7, 3) := by decide +kernel
theorem dX6_client_80 : decode cX6_client 80 = .ok (.iload_n 1, 1) := by decide +kernel
theorem dX6_client_81 : decode cX6_client 81 = .ok (.iaload, 1) := by decide +kernel
theorem dX6_client_82 : decode cX6_client 82 = .ok (.ireturn, 1) := by decide +kernel
theorem dX6_client_83 : decode cX6_client 83 = .ok (.aload_n 0, 1) := by decide +kernel
theorem dX6_client_84 : decode cX6_client 84 = .ok (.getfield 13, 3) := by decide +kernel
theorem dX6_client_87 : decode cX6_client 87 = .ok (.iload_n 1, 1) := by decide +kernel
theorem dX6_client_88 : decode cX6_client 88 = .ok (.iaload, 1) := by decide +kernel
theorem dX6_client_89 : decode cX6_client 89 = .ok (.ireturn, 1) := by decide +kernel
theorem dX6_client_90 : decode cX6_client 90 = .ok (.aload_n 0, 1) := by decide +kernel
theorem dX6_client_91 : decode cX6_client 91 = .ok (.aload_n 0, 1) := by decide +kernel
theorem dX6_client_92 : decode cX6_client 92 = .ok (.getfield 7, 3) := by decide +kernel
theorem dX6_client_95 : decode cX6_client 95 = .ok (.iload_n 1, 1) := by decide +kernel
theorem dX6_client_96 : decode cX6_client 96 = .ok (.iaload, 1) := by decide +kernel
theorem dX6_client_97 : decode cX6_client 97 = .ok (.invokevirtual 179, 3) := by decide +kernel
theorem dX6_client_100 : decode cX6_client 100 = .ok (.ifCond .eq 7, 3) := by decide +kernel
theorem dX6_client_103 : decode cX6_client 103 = .ok (.iconst 1, 1) := by decide +kernel
theorem dX6_client_104 : decode cX6_client 104 = .ok (.goto 4, 3) := by decide +kernel
theorem dX6_client_107 : decode cX6_client 107 = .ok (.iconst 0, 1) := by decide +kernel
theorem dX6_client_108 : decode cX6_client 108 = .ok (.ireturn, 1) := by decide +kernel
theorem dX6_client_109 : decode cX6_client 109 = .ok (.aload_n 0, 1) := by decide +kernel
theorem dX6_client_110 : decode cX6_client 110 = .ok (.getfield 16, 3) := by decide +kernel
theorem dX6_client_113 : decode cX6_client 113 = .ok (.iload_n 1, 1) := by decide +kernel
theorem dX6_client_114 : decode cX6_client 114 = .ok (.iaload, 1) := by decide +kernel
theorem dX6_client_115 : decode cX6_client 115 = .ok (.ireturn, 1) := by decide +kernel
theorem dX6_client_116 : decode cX6_client 116 = .ok (.aload_n 0, 1) := by decide +kernel
theorem dX6_client_117 : decode cX6_client 117 = .ok (.iload_n 1, 1) := by decide +kernel
theorem dX6_client_118 : decode cX6_client 118 = .ok (.invokevirtual 186, 3) := by decide +kernel
theorem dX6_client_121 : decode cX6_client 121 = .ok (.ireturn, 1) := by decide +kernel
theorem dX6_client_122 : decode cX6_client 122 = .ok (.aload_n 0, 1) := by decide +kernel
theorem dX6_client_123 : decode cX6_client 123 = .ok (.iload_n 1, 1) := by decide +kernel
theorem dX6_client_124 : decode cX6_client 124 = .ok (.invokevirtual 190, 3) := by decide +kernel
theorem dX6_client_127 : decode cX6_client 127 = .ok (.ireturn, 1) := by decide +kernel
theorem dX6_client_128 : decode cX6_client 128 = .ok (.iconst (-1), 1) := by decide +kernel
theorem dX6_client_129 : decode cX6_client 129 = .ok (.ireturn, 1) := by decide +kernel
theorem dX6_state_0 : decode cX6_state 0 = .ok (.aload_n 0, 1) := by decide +kernel
theorem dX6_state_1 : decode cX6_state 1 = .ok (.iload_n 1, 1) := by decide +kernel
theorem dX6_state_2 : decode cX6_state 2 = .ok (.iload_n 2, 1) := by decide +kernel
theorem dX6_state_3 : decode cX6_state 3 = .ok (.invokevirtual 197, 3) := by decide +kernel
theorem dX6_state_6 : decode cX6_state 6 = .ok (.ifCond .eq 19, 3) := by decide +kernel
theorem dX6_state_9 : decode cX6_state 9 = .ok (.aload_n 0, 1) := by decide +kernel
theorem dX6_state_10 : decode cX6_state 10 = .ok (.getfield 22, 3) := by decide +kernel
theorem dX6_state_13 : decode cX6_state 13 = .ok (.bipush 60, 2) := by decide +kernel
theorem dX6_state_15 : decode cX6_state 15 = .ok (.iload_n 1, 1) := by decide +kernel
theorem dX6_state_16 : decode cX6_state 16 = .ok (.imul, 1) := by decide +kernel
theorem dX6_state_17 : decode cX6_state 17 = .ok (.iload_n 2, 1) := by decide +kernel
theorem dX6_state_18 : decode cX6_state 18 = .ok (.iadd, 1) := by decide +kernel
theorem dX6_state_19 : decode cX6_state 19 = .ok (.iconst 1, 1) := by decide +kernel
theorem dX6_state_20 : decode cX6_state 20 = .ok (.isub, 1) := by decide +kernel
theorem dX6_state_21 : decode cX6_state 21 = .ok (.iaload, 1) := by decide +kernel
theorem dX6_state_22 : decode cX6_state 22 = .ok (.goto 4, 3) := by decide +kernel
theorem dX6_state_25 : decode cX6_state 25 = .ok (.iconst (-1), 1) := by decide +kernel
theorem dX6_state_26 : decode cX6_state 26 = .ok (.ireturn, 1) := by decide +kernel
theorem dX6_result_0 : decode cX6_result 0 = .ok (.aload_n 0, 1) := by decide +kernel
theorem dX6_result_1 : decode cX6_result 1 = .ok (.iload_n 1, 1) := by decide +kernel
theorem dX6_result_2 : decode cX6_result 2 = .ok (.iload_n 2, 1) := by decide +kernel
theorem dX6_result_3 : decode cX6_result 3 = .ok (.invokevirtual 197, 3) := by decide +kernel
theorem dX6_result_6 : decode cX6_result 6 = .ok (.ifCond .eq 36, 3) := by decide +kernel
theorem dX6_result_9 : decode cX6_result 9 = .ok (.aload_n 0, 1) := by decide +kernel
theorem dX6_result_10 : decode cX6_result 10 = .ok (.getfield 22, 3) := by decide +kernel
theorem dX6_result_13 : decode cX6_result 13 = .ok (.bipush 60, 2) := by decide +kernel
theorem dX6_result_15 : decode cX6_result 15 = .ok (.iload_n 1, 1) := by decide +kernel
theorem dX6_result_16 : decode cX6_result 16 = .ok (.imul, 1) := by decide +kernel
theorem dX6_result_17 : decode cX6_result 17 = .ok (.iload_n 2, 1) := by decide +kernel
theorem dX6_result_18 : decode cX6_result 18 = .ok (.iadd, 1) := by decide +kernel
theorem dX6_result_19 : decode cX6_result 19 = .ok (.iconst 1, 1) := by decide +kernel
theorem dX6_result_20 : decode cX6_result 20 = .ok (.isub, 1) := by decide +kernel
theorem dX6_result_21 : decode cX6_result 21 = .ok (.iaload, 1) := by decide +kernel
theorem dX6_result_22 : decode cX6_result 22 = .ok (.iconst 1, 1) := by decide +kernel
theorem dX6_result_23 : decode cX6_result 23 = .ok (.if_icmp .ne 19, 3) := by decide +kernel
theorem dX6_result_26 : decode cX6_result 26 = .ok (.aload_n 0, 1) := by decide +kernel
theorem dX6_result_27 : decode cX6_result 27 = .ok (.getfield 25, 3) := by decide +kernel
theorem dX6_result_30 : decode cX6_result 30 = .ok (.bipush 60, 2) := by decide +kernel
theorem dX6_result_32 : decode cX6_result 32 = .ok (.iload_n 1, 1) := by decide +kernel
theorem dX6_result_33 : decode cX6_result 33 = .ok (.imul, 1) := by decide +kernel
theorem dX6_result_34 : decode cX6_result 34 = .ok (.iload_n 2, 1) := by decide +kernel
theorem dX6_result_35 : decode cX6_result 35 = .ok (.iadd, 1) := by decide +kernel
theorem dX6_result_36 : decode cX6_result 36 = .ok (.iconst 1, 1) := by decide +kernel
theorem dX6_result_37 : decode cX6_result 37 = .ok (.isub, 1) := by decide +kernel
theorem dX6_result_38 : decode cX6_result 38 = .ok (.laload, 1) := by decide +kernel
theorem dX6_result_39 : decode cX6_result 39 = .ok (.goto 4, 3) := by decide +kernel
theorem dX6_result_42 : decode cX6_result 42 = .ok (.lconst 0, 1) := by decide +kernel
theorem dX6_result_43 : decode cX6_result 43 = .ok (.lreturn, 1) := by decide +kernel
theorem dX6_letter__0 : decode cX6_letter_ 0 = .ok (.iload_n 1, 1) := by decide +kernel
theorem dX6_letter__1 : decode cX6_letter_ 1 = .ok (.iconst 0, 1) := by decide +kernel
theorem dX6_letter__2 : decode cX6_letter_ 2 = .ok (.aload_n 0, 1) := by decide +kernel
theorem dX6_letter__3 : decode cX6_letter_ 3 = .ok (.getfield 162, 3) := by decide +kernel
theorem dX6_letter__6 : decode cX6_letter_ 6 = .ok (.iconst 1, 1) := by decide +kernel
theorem dX6_letter__7 : decode cX6_letter_ 7 = .ok (.isub, 1) := by decide +kernel
theorem dX6_letter__8 : decode cX6_letter_ 8 = .ok (.invokestatic 152, 3) := by decide +kernel
theorem dX6_letter__11 : decode cX6_letter_ 11 = .ok (.ifCond .ne 5, 3) := by decide +kernel
theorem dX6_letter__14 : decode cX6_letter_ 14 = .ok (.iconst (-1), 1) := by decide +kernel
theorem dX6_letter__15 : decode cX6_letter_ 15 = .ok (.ireturn, 1) := by decide +kernel
theorem dX6_letter__16 : decode cX6_letter_ 16 = .ok (.aload_n 0, 1) := by decide +kernel
theorem dX6_letter__17 : decode cX6_letter_ 17 = .ok (.getfield 136, 3) := by decide +kernel
theorem dX6_letter__20 : decode cX6_letter_ 20 = .ok (.iload_n 1, 1) := by decide +kernel
theorem dX6_letter__21 : decode cX6_letter_ 21 = .ok (.iaload, 1) := by decide +kernel
theorem dX6_letter__22 : decode cX6_letter_ 22 = .ok (.istore_n 3, 1) := by decide +kernel
theorem dX6_letter__23 : decode cX6_letter_ 23 = .ok (.aload_n 0, 1) := by decide +kernel
theorem dX6_letter__24 : decode cX6_letter_ 24 = .ok (.getfield 84, 3) := by decide +kernel
theorem dX6_letter__27 : decode cX6_letter_ 27 = .ok (.iload_n 3, 1) := by decide +kernel
theorem dX6_letter__28 : decode cX6_letter_ 28 = .ok (.iaload, 1) := by decide +kernel
theorem dX6_letter__29 : decode cX6_letter_ 29 = .ok (.istore 4, 2) := by decide +kernel
theorem dX6_letter__31 : decode cX6_letter_ 31 = .ok (.iload_n 2, 1) := by decide +kernel
theorem dX6_letter__32 : decode cX6_letter_ 32 = .ok (.tableswitch 94 0 5 #[40, 43, 50, 57, 64, 71], 40) := by decide +kernel
theorem dX6_letter__72 : decode cX6_letter_ 72 = .ok (.iload 4, 2) := by decide +kernel
theorem dX6_letter__74 : decode cX6_letter_ 74 = .ok (.ireturn, 1) := by decide +kernel
theorem dX6_letter__75 : decode cX6_letter_ 75 = .ok (.aload_n 0, 1) := by decide +kernel
theorem dX6_letter__76 : decode cX6_letter_ 76 = .ok (.getfield 87, 3) := by decide +kernel
theorem dX6_letter__79 : decode cX6_letter_ 79 = .ok (.iload_n 3, 1) := by decide +kernel
theorem dX6_letter__80 : decode cX6_letter_ 80 = .ok (.iaload, 1) := by decide +kernel
theorem dX6_letter__81 : decode cX6_letter_ 81 = .ok (.ireturn, 1) := by decide +kernel
theorem dX6_letter__82 : decode cX6_letter_ 82 = .ok (.aload_n 0, 1) := by decide +kernel
theorem dX6_letter__83 : decode cX6_letter_ 83 = .ok (.getfield 90, 3) := by decide +kernel
theorem dX6_letter__86 : decode cX6_letter_ 86 = .ok (.iload_n 3, 1) := by decide +kernel
theorem dX6_letter__87 : decode cX6_letter_ 87 = .ok (.iaload, 1) := by decide +kernel
theorem dX6_letter__88 : decode cX6_letter_ 88 = .ok (.ireturn, 1) := by decide +kernel
theorem dX6_letter__89 : decode cX6_letter_ 89 = .ok (.aload_n 0, 1) := by decide +kernel
theorem dX6_letter__90 : decode cX6_letter_ 90 = .ok (.getfield 93, 3) := by decide +kernel
theorem dX6_letter__93 : decode cX6_letter_ 93 = .ok (.iload_n 3, 1) := by decide +kernel
theorem dX6_letter__94 : decode cX6_letter_ 94 = .ok (.iaload, 1) := by decide +kernel
theorem dX6_letter__95 : decode cX6_letter_ 95 = .ok (.ireturn, 1) := by decide +kernel
theorem dX6_letter__96 : decode cX6_letter_ 96 = .ok (.aload_n 0, 1) := by decide +kernel
theorem dX6_letter__97 : decode cX6_letter_ 97 = .ok (.getfield 96, 3) := by decide +kernel
theorem dX6_letter__100 : decode cX6_letter_ 100 = .ok (.iload_n 3, 1) := by decide +kernel
theorem dX6_letter__101 : decode cX6_letter_ 101 = .ok (.iaload, 1) := by decide +kernel
theorem dX6_letter__102 : decode cX6_letter_ 102 = .ok (.ireturn, 1) := by decide +kernel
theorem dX6_letter__103 : decode cX6_letter_ 103 = .ok (.iload 4, 2) := by decide +kernel
theorem dX6_letter__105 : decode cX6_letter_ 105 = .ok (.iconst 4, 1) := by decide +kernel
theorem dX6_letter__106 : decode cX6_letter_ 106 = .ok (.if_icmp .eq 9, 3) := by decide +kernel
theorem dX6_letter__109 : decode cX6_letter_ 109 = .ok (.iload 4, 2) := by decide +kernel
theorem dX6_letter__111 : decode cX6_letter_ 111 = .ok (.iconst 5, 1) := by decide +kernel
theorem dX6_letter__112 : decode cX6_letter_ 112 = .ok (.if_icmp .ne 7, 3) := by decide +kernel
theorem dX6_letter__115 : decode cX6_letter_ 115 = .ok (.iconst 0, 1) := by decide +kernel
theorem dX6_letter__116 : decode cX6_letter_ 116 = .ok (.goto 9, 3) := by decide +kernel
theorem dX6_letter__119 : decode cX6_letter_ 119 = .ok (.aload_n 0, 1) := by decide +kernel
theorem dX6_letter__120 : decode cX6_letter_ 120 = .ok (.getfield 99, 3) := by decide +kernel
theorem dX6_letter__123 : decode cX6_letter_ 123 = .ok (.iload_n 3, 1) := by decide +kernel
theorem dX6_letter__124 : decode cX6_letter_ 124 = .ok (.iaload, 1) := by decide +kernel
theorem dX6_letter__125 : decode cX6_letter_ 125 = .ok (.ireturn, 1) := by decide +kernel
theorem dX6_letter__126 : decode cX6_letter_ 126 = .ok (.iconst (-1), 1) := by decide +kernel
theorem dX6_letter__127 : decode cX6_letter_ 127 = .ok (.ireturn, 1) := by decide +kernel
theorem dX6_count_0 : decode cX6_count 0 = .ok (.iload_n 1, 1) := by decide +kernel
theorem dX6_count_1 : decode cX6_count 1 = .ok (.tableswitch 60 0 4 #[35, 40, 45, 50, 55], 35) := by decide +kernel
theorem dX6_count_36 : decode cX6_count 36 = .ok (.aload_n 0, 1) := by decide +kernel
theorem dX6_count_37 : decode cX6_count 37 = .ok (.getfield 162, 3) := by decide +kernel
theorem dX6_count_40 : decode cX6_count 40 = .ok (.ireturn, 1) := by decide +kernel
theorem dX6_count_41 : decode cX6_count 41 = .ok (.aload_n 0, 1) := by decide +kernel
theorem dX6_count_42 : decode cX6_count 42 = .ok (.getfield 165, 3) := by decide +kernel
theorem dX6_count_45 : decode cX6_count 45 = .ok (.ireturn, 1) := by decide +kernel
theorem dX6_count_46 : decode cX6_count 46 = .ok (.aload_n 0, 1) := by decide +kernel
theorem dX6_count_47 : decode cX6_count 47 = .ok (.getfield 225, 3) := by decide +kernel
theorem dX6_count_50 : decode cX6_count 50 = .ok (.ireturn, 1) := by decide +kernel
theorem dX6_count_51 : decode cX6_count 51 = .ok (.aload_n 0, 1) := by decide +kernel
theorem dX6_count_52 : decode cX6_count 52 = .ok (.getfield 204, 3) := by decide +kernel
theorem dX6_count_55 : decode cX6_count 55 = .ok (.ireturn, 1) := by decide +kernel
theorem dX6_count_56 : decode cX6_count 56 = .ok (.aload_n 0, 1) := by decide +kernel
theorem dX6_count_57 : decode cX6_count 57 = .ok (.getfield 156, 3) := by decide +kernel
theorem dX6_count_60 : decode cX6_count 60 = .ok (.ireturn, 1) := by decide +kernel
theorem dX6_count_61 : decode cX6_count 61 = .ok (.iconst (-1), 1) := by decide +kernel
theorem dX6_count_62 : decode cX6_count 62 = .ok (.ireturn, 1) := by decide +kernel
end
section
theorem dL_cell_0 : decode cL_cell 0 = .ok (.iload_n 1, 1) := by decide +kernel
theorem dL_cell_1 : decode cL_cell 1 = .ok (.aload_n 0, 1) := by decide +kernel
theorem dL_cell_2 : decode cL_cell 2 = .ok (.arraylength, 1) := by decide +kernel
theorem dL_cell_3 : decode cL_cell 3 = .ok (.if_icmp .ge 9, 3) := by decide +kernel
theorem dL_cell_6 : decode cL_cell 6 = .ok (.aload_n 0, 1) := by decide +kernel
theorem dL_cell_7 : decode cL_cell 7 = .ok (.iload_n 1, 1) := by decide +kernel
theorem dL_cell_8 : decode cL_cell 8 = .ok (.iaload, 1) := by decide +kernel
theorem dL_cell_9 : decode cL_cell 9 = .ok (.goto 4, 3) := by decide +kernel
theorem dL_cell_12 : decode cL_cell 12 = .ok (.iconst 0, 1) := by decide +kernel
theorem dL_cell_13 : decode cL_cell 13 = .ok (.ireturn, 1) := by decide +kernel
theorem dL_law_0 : decode cL_law 0 = .ok (.new 7, 3) := by decide +kernel
theorem dL_law_3 : decode cL_law 3 = .ok (.dup, 1) := by decide +kernel
theorem dL_law_4 : decode cL_law 4 = .ok (.aload_n 0, 1) := by decide +kernel
theorem dL_law_5 : decode cL_law 5 = .ok (.iconst 0, 1) := by decide +kernel
theorem dL_law_6 : decode cL_law 6 = .ok (.invokestatic 9, 3) := by decide +kernel
theorem dL_law_9 : decode cL_law 9 = .ok (.aload_n 0, 1) := by decide +kernel
theorem dL_law_10 : decode cL_law 10 = .ok (.iconst 1, 1) := by decide +kernel
theorem dL_law_11 : decode cL_law 11 = .ok (.invokestatic 9, 3) := by decide +kernel
theorem dL_law_14 : decode cL_law 14 = .ok (.invokespecial 15, 3) := by decide +kernel
theorem dL_law_17 : decode cL_law 17 = .ok (.astore_n 1, 1) := by decide +kernel
theorem dL_law_18 : decode cL_law 18 = .ok (.new 18, 3) := by decide +kernel
theorem dL_law_21 : decode cL_law 21 = .ok (.dup, 1) := by decide +kernel
theorem dL_law_22 : decode cL_law 22 = .ok (.aload_n 0, 1) := by decide +kernel
theorem dL_law_23 : decode cL_law 23 = .ok (.iconst 0, 1) := by decide +kernel
theorem dL_law_24 : decode cL_law 24 = .ok (.invokestatic 9, 3) := by decide +kernel
theorem dL_law_27 : decode cL_law 27 = .ok (.aload_n 0, 1) := by decide +kernel
theorem dL_law_28 : decode cL_law 28 = .ok (.iconst 1, 1) := by decide +kernel
theorem dL_law_29 : decode cL_law 29 = .ok (.invokestatic 9, 3) := by decide +kernel
theorem dL_law_32 : decode cL_law 32 = .ok (.invokespecial 20, 3) := by decide +kernel
theorem dL_law_35 : decode cL_law 35 = .ok (.astore_n 2, 1) := by decide +kernel
theorem dL_law_36 : decode cL_law 36 = .ok (.iconst 2, 1) := by decide +kernel
theorem dL_law_37 : decode cL_law 37 = .ok (.istore_n 3, 1) := by decide +kernel
theorem dL_law_38 : decode cL_law 38 = .ok (.iload_n 3, 1) := by decide +kernel
theorem dL_law_39 : decode cL_law 39 = .ok (.aload_n 0, 1) := by decide +kernel
theorem dL_law_40 : decode cL_law 40 = .ok (.arraylength, 1) := by decide +kernel
theorem dL_law_41 : decode cL_law 41 = .ok (.bipush 8, 2) := by decide +kernel
theorem dL_law_43 : decode cL_law 43 = .ok (.isub, 1) := by decide +kernel
theorem dL_law_44 : decode cL_law 44 = .ok (.if_icmp .gt 907, 3) := by decide +kernel
theorem dL_law_47 : decode cL_law 47 = .ok (.aload_n 0, 1) := by decide +kernel
theorem dL_law_48 : decode cL_law 48 = .ok (.iload_n 3, 1) := by decide +kernel
theorem dL_law_49 : decode cL_law 49 = .ok (.iaload, 1) := by decide +kernel
theorem dL_law_50 : decode cL_law 50 = .ok (.bipush 31, 2) := by decide +kernel
theorem dL_law_52 : decode cL_law 52 = .ok (.iand, 1) := by decide +kernel
theorem dL_law_53 : decode cL_law 53 = .ok (.tableswitch 892 0 22 #[107, 130, 153, 280, 313, 346, 369, 392, 415, 438, 461, 484, 527, 550, 573, 606, 649, 683, 736, 769, 802, 836, 869], 107) := by decide +kernel
theorem dL_law_160 : decode cL_law 160 = .ok (.aload_n 1, 1) := by decide +kernel
theorem dL_law_161 : decode cL_law 161 = .ok (.aload_n 0, 1) := by decide +kernel
theorem dL_law_162 : decode cL_law 162 = .ok (.iload_n 3, 1) := by decide +kernel
theorem dL_law_163 : decode cL_law 163 = .ok (.iconst 1, 1) := by decide +kernel
theorem dL_law_164 : decode cL_law 164 = .ok (.iadd, 1) := by decide +kernel
theorem dL_law_165 : decode cL_law 165 = .ok (.iaload, 1) := by decide +kernel
theorem dL_law_166 : decode cL_law 166 = .ok (.invokevirtual 21, 3) := by decide +kernel
theorem dL_law_169 : decode cL_law 169 = .ok (.aload_n 2, 1) := by decide +kernel
theorem dL_law_170 : decode cL_law 170 = .ok (.aload_n 0, 1) := by decide +kernel
theorem dL_law_171 : decode cL_law 171 = .ok (.iload_n 3, 1) := by decide +kernel
theorem dL_law_172 : decode cL_law 172 = .ok (.iconst 1, 1) := by decide +kernel
theorem dL_law_173 : decode cL_law 173 = .ok (.iadd, 1) := by decide +kernel
theorem dL_law_174 : decode cL_law 174 = .ok (.iaload, 1) := by decide +kernel
theorem dL_law_175 : decode cL_law 175 = .ok (.invokevirtual 25, 3) := by decide +kernel
theorem dL_law_178 : decode cL_law 178 = .ok (.if_icmp .eq 767, 3) := by decide +kernel
theorem dL_law_181 : decode cL_law 181 = .ok (.iconst 0, 1) := by decide +kernel
theorem dL_law_182 : decode cL_law 182 = .ok (.ireturn, 1) := by decide +kernel
theorem dL_law_183 : decode cL_law 183 = .ok (.aload_n 1, 1) := by decide +kernel
theorem dL_law_184 : decode cL_law 184 = .ok (.aload_n 0, 1) := by decide +kernel
theorem dL_law_185 : decode cL_law 185 = .ok (.iload_n 3, 1) := by decide +kernel
theorem dL_law_186 : decode cL_law 186 = .ok (.iconst 1, 1) := by decide +kernel
theorem dL_law_187 : decode cL_law 187 = .ok (.iadd, 1) := by decide +kernel
theorem dL_law_188 : decode cL_law 188 = .ok (.iaload, 1) := by decide +kernel
theorem dL_law_189 : decode cL_law 189 = .ok (.invokevirtual 26, 3) := by decide +kernel
theorem dL_law_192 : decode cL_law 192 = .ok (.aload_n 2, 1) := by decide +kernel
theorem dL_law_193 : decode cL_law 193 = .ok (.aload_n 0, 1) := by decide +kernel
theorem dL_law_194 : decode cL_law 194 = .ok (.iload_n 3, 1) := by decide +kernel
theorem dL_law_195 : decode cL_law 195 = .ok (.iconst 1, 1) := by decide +kernel
theorem dL_law_196 : decode cL_law 196 = .ok (.iadd, 1) := by decide +kernel
theorem dL_law_197 : decode cL_law 197 = .ok (.iaload, 1) := by decide +kernel
theorem dL_law_198 : decode cL_law 198 = .ok (.invokevirtual 29, 3) := by decide +kernel
theorem dL_law_201 : decode cL_law 201 = .ok (.if_icmp .eq 744, 3) := by decide +kernel
theorem dL_law_204 : decode cL_law 204 = .ok (.iconst 0, 1) := by decide +kernel
theorem dL_law_205 : decode cL_law 205 = .ok (.ireturn, 1) := by decide +kernel
theorem dL_law_206 : decode cL_law 206 = .ok (.aload_n 1, 1) := by decide +kernel
theorem dL_law_207 : decode cL_law 207 = .ok (.aload_n 0, 1) := by decide +kernel
theorem dL_law_208 : decode cL_law 208 = .ok (.iload_n 3, 1) := by decide +kernel
theorem dL_law_209 : decode cL_law 209 = .ok (.iconst 1, 1) := by decide +kernel
theorem dL_law_210 : decode cL_law 210 = .ok (.iadd, 1) := by decide +kernel
theorem dL_law_211 : decode cL_law 211 = .ok (.iaload, 1) := by decide +kernel
theorem dL_law_212 : decode cL_law 212 = .ok (.aload_n 0, 1) := by decide +kernel
theorem dL_law_213 : decode cL_law 213 = .ok (.iload_n 3, 1) := by decide +kernel
theorem dL_law_214 : decode cL_law 214 = .ok (.iconst 2, 1) := by decide +kernel
theorem dL_law_215 : decode cL_law 215 = .ok (.iadd, 1) := by decide +kernel
theorem dL_law_216 : decode cL_law 216 = .ok (.iaload, 1) := by decide +kernel
theorem dL_law_217 : decode cL_law 217 = .ok (.aload_n 0, 1) := by decide +kernel
theorem dL_law_218 : decode cL_law 218 = .ok (.iload_n 3, 1) := by decide +kernel
theorem dL_law_219 : decode cL_law 219 = .ok (.iconst 3, 1) := by decide +kernel
theorem dL_law_220 : decode cL_law 220 = .ok (.iadd, 1) := by decide +kernel
theorem dL_law_221 : decode cL_law 221 = .ok (.iaload, 1) := by decide +kernel
theorem dL_law_222 : decode cL_law 222 = .ok (.aload_n 0, 1) := by decide +kernel
theorem dL_law_223 : decode cL_law 223 = .ok (.iload_n 3, 1) := by decide +kernel
theorem dL_law_224 : decode cL_law 224 = .ok (.iconst 4, 1) := by decide +kernel
theorem dL_law_225 : decode cL_law 225 = .ok (.iadd, 1) := by decide +kernel
theorem dL_law_226 : decode cL_law 226 = .ok (.iaload, 1) := by decide +kernel
theorem dL_law_227 : decode cL_law 227 = .ok (.i2l, 1) := by decide +kernel
theorem dL_law_228 : decode cL_law 228 = .ok (.bipush 32, 2) := by decide +kernel
theorem dL_law_230 : decode cL_law 230 = .ok (.lshl, 1) := by decide +kernel
theorem dL_law_231 : decode cL_law 231 = .ok (.aload_n 0, 1) := by decide +kernel
theorem dL_law_232 : decode cL_law 232 = .ok (.iload_n 3, 1) := by decide +kernel
theorem dL_law_233 : decode cL_law 233 = .ok (.iconst 5, 1) := by decide +kernel
theorem dL_law_234 : decode cL_law 234 = .ok (.iadd, 1) := by decide +kernel
theorem dL_law_235 : decode cL_law 235 = .ok (.iaload, 1) := by decide +kernel
theorem dL_law_236 : decode cL_law 236 = .ok (.i2l, 1) := by decide +kernel
theorem dL_law_237 : decode cL_law 237 = .ok (.ldc2_w 30, 3) := by decide +kernel
theorem dL_law_240 : decode cL_law 240 = .ok (.land, 1) := by decide +kernel
theorem dL_law_241 : decode cL_law 241 = .ok (.lor, 1) := by decide +kernel
theorem dL_law_242 : decode cL_law 242 = .ok (.aload_n 0, 1) := by decide +kernel
theorem dL_law_243 : decode cL_law 243 = .ok (.iload_n 3, 1) := by decide +kernel
theorem dL_law_244 : decode cL_law 244 = .ok (.bipush 6, 2) := by decide +kernel
theorem dL_law_246 : decode cL_law 246 = .ok (.iadd, 1) := by decide +kernel
theorem dL_law_247 : decode cL_law 247 = .ok (.iaload, 1) := by decide +kernel
theorem dL_law_248 : decode cL_law 248 = .ok (.i2l, 1) := by decide +kernel
theorem dL_law_249 : decode cL_law 249 = .ok (.bipush 32, 2) := by decide +kernel
theorem dL_law_251 : decode cL_law 251 = .ok (.lshl, 1) := by decide +kernel
theorem dL_law_252 : decode cL_law 252 = .ok (.aload_n 0, 1) := by decide +kernel
theorem dL_law_253 : decode cL_law 253 = .ok (.iload_n 3, 1) := by decide +kernel
theorem dL_law_254 : decode cL_law 254 = .ok (.bipush 7, 2) := by decide +kernel
theorem dL_law_256 : decode cL_law 256 = .ok (.iadd, 1) := by decide +kernel
theorem dL_law_257 : decode cL_law 257 = .ok (.iaload, 1) := by decide +kernel
theorem dL_law_258 : decode cL_law 258 = .ok (.i2l, 1) := by decide +kernel
theorem dL_law_259 : decode cL_law 259 = .ok (.ldc2_w 30, 3) := by decide +kernel
theorem dL_law_262 : decode cL_law 262 = .ok (.land, 1) := by decide +kernel
theorem dL_law_263 : decode cL_law 263 = .ok (.lor, 1) := by decide +kernel
theorem dL_law_264 : decode cL_law 264 = .ok (.invokevirtual 32, 3) := by decide +kernel
theorem dL_law_267 : decode cL_law 267 = .ok (.aload_n 2, 1) := by decide +kernel
theorem dL_law_268 : decode cL_law 268 = .ok (.aload_n 0, 1) := by decide +kernel
theorem dL_law_269 : decode cL_law 269 = .ok (.iload_n 3, 1) := by decide +kernel
theorem dL_law_270 : decode cL_law 270 = .ok (.iconst 1, 1) := by decide +kernel
theorem dL_law_271 : decode cL_law 271 = .ok (.iadd, 1) := by decide +kernel
theorem dL_law_272 : decode cL_law 272 = .ok (.iaload, 1) := by decide +kernel
theorem dL_law_273 : decode cL_law 273 = .ok (.aload_n 0, 1) := by decide +kernel
theorem dL_law_274 : decode cL_law 274 = .ok (.iload_n 3, 1) := by decide +kernel
theorem dL_law_275 : decode cL_law 275 = .ok (.iconst 2, 1) := by decide +kernel
theorem dL_law_276 : decode cL_law 276 = .ok (.iadd, 1) := by decide +kernel
theorem dL_law_277 : decode cL_law 277 = .ok (.iaload, 1) := by decide +kernel
theorem dL_law_278 : decode cL_law 278 = .ok (.aload_n 0, 1) := by decide +kernel
theorem dL_law_279 : decode cL_law 279 = .ok (.iload_n 3, 1) := by decide +kernel
theorem dL_law_280 : decode cL_law 280 = .ok (.iconst 3, 1) := by decide +kernel
theorem dL_law_281 : decode cL_law 281 = .ok (.iadd, 1) := by decide +kernel
theorem dL_law_282 : decode cL_law 282 = .ok (.iaload, 1) := by decide +kernel
theorem dL_law_283 : decode cL_law 283 = .ok (.aload_n 0, 1) := by decide +kernel
theorem dL_law_284 : decode cL_law 284 = .ok (.iload_n 3, 1) := by decide +kernel
theorem dL_law_285 : decode cL_law 285 = .ok (.iconst 4, 1) := by decide +kernel
theorem dL_law_286 : decode cL_law 286 = .ok (.iadd, 1) := by decide +kernel
theorem dL_law_287 : decode cL_law 287 = .ok (.iaload, 1) := by decide +kernel
theorem dL_law_288 : decode cL_law 288 = .ok (.i2l, 1) := by decide +kernel
theorem dL_law_289 : decode cL_law 289 = .ok (.bipush 32, 2) := by decide +kernel
theorem dL_law_291 : decode cL_law 291 = .ok (.lshl, 1) := by decide +kernel
theorem dL_law_292 : decode cL_law 292 = .ok (.aload_n 0, 1) := by decide +kernel
theorem dL_law_293 : decode cL_law 293 = .ok (.iload_n 3, 1) := by decide +kernel
theorem dL_law_294 : decode cL_law 294 = .ok (.iconst 5, 1) := by decide +kernel
theorem dL_law_295 : decode cL_law 295 = .ok (.iadd, 1) := by decide +kernel
theorem dL_law_296 : decode cL_law 296 = .ok (.iaload, 1) := by decide +kernel
theorem dL_law_297 : decode cL_law 297 = .ok (.i2l, 1) := by decide +kernel
theorem dL_law_298 : decode cL_law 298 = .ok (.ldc2_w 30, 3) := by decide +kernel
theorem dL_law_301 : decode cL_law 301 = .ok (.land, 1) := by decide +kernel
theorem dL_law_302 : decode cL_law 302 = .ok (.lor, 1) := by decide +kernel
theorem dL_law_303 : decode cL_law 303 = .ok (.aload_n 0, 1) := by decide +kernel
theorem dL_law_304 : decode cL_law 304 = .ok (.iload_n 3, 1) := by decide +kernel
theorem dL_law_305 : decode cL_law 305 = .ok (.bipush 6, 2) := by decide +kernel
theorem dL_law_307 : decode cL_law 307 = .ok (.iadd, 1) := by decide +kernel
theorem dL_law_308 : decode cL_law 308 = .ok (.iaload, 1) := by decide +kernel
theorem dL_law_309 : decode cL_law 309 = .ok (.i2l, 1) := by decide +kernel
theorem dL_law_310 : decode cL_law 310 = .ok (.bipush 32, 2) := by decide +kernel
theorem dL_law_312 : decode cL_law 312 = .ok (.lshl, 1) := by decide +kernel
theorem dL_law_313 : decode cL_law 313 = .ok (.aload_n 0, 1) := by decide +kernel
theorem dL_law_314 : decode cL_law 314 = .ok (.iload_n 3, 1) := by decide +kernel
theorem dL_law_315 : decode cL_law 315 = .ok (.bipush 7, 2) := by decide +kernel
theorem dL_law_317 : decode cL_law 317 = .ok (.iadd, 1) := by decide +kernel
theorem dL_law_318 : decode cL_law 318 = .ok (.iaload, 1) := by decide +kernel
theorem dL_law_319 : decode cL_law 319 = .ok (.i2l, 1) := by decide +kernel
theorem dL_law_320 : decode cL_law 320 = .ok (.ldc2_w 30, 3) := by decide +kernel
theorem dL_law_323 : decode cL_law 323 = .ok (.land, 1) := by decide +kernel
theorem dL_law_324 : decode cL_law 324 = .ok (.lor, 1) := by decide +kernel
theorem dL_law_325 : decode cL_law 325 = .ok (.invokevirtual 36, 3) := by decide +kernel
theorem dL_law_328 : decode cL_law 328 = .ok (.if_icmp .eq 617, 3) := by decide +kernel
theorem dL_law_331 : decode cL_law 331 = .ok (.iconst 0, 1) := by decide +kernel
theorem dL_law_332 : decode cL_law 332 = .ok (.ireturn, 1) := by decide +kernel
theorem dL_law_333 : decode cL_law 333 = .ok (.aload_n 1, 1) := by decide +kernel
theorem dL_law_334 : decode cL_law 334 = .ok (.aload_n 0, 1) := by decide +kernel
theorem dL_law_335 : decode cL_law 335 = .ok (.iload_n 3, 1) := by decide +kernel
theorem dL_law_336 : decode cL_law 336 = .ok (.iconst 1, 1) := by decide +kernel
theorem dL_law_337 : decode cL_law 337 = .ok (.iadd, 1) := by decide +kernel
theorem dL_law_338 : decode cL_law 338 = .ok (.iaload, 1) := by decide +kernel
theorem dL_law_339 : decode cL_law 339 = .ok (.aload_n 0, 1) := by decide +kernel
theorem dL_law_340 : decode cL_law 340 = .ok (.iload_n 3, 1) := by decide +kernel
theorem dL_law_341 : decode cL_law 341 = .ok (.iconst 2, 1) := by decide +kernel
theorem dL_law_342 : decode cL_law 342 = .ok (.iadd, 1) := by decide +kernel
theorem dL_law_343 : decode cL_law 343 = .ok (.iaload, 1) := by decide +kernel
theorem dL_law_344 : decode cL_law 344 = .ok (.invokevirtual 37, 3) := by decide +kernel
theorem dL_law_347 : decode cL_law 347 = .ok (.aload_n 2, 1) := by decide +kernel
theorem dL_law_348 : decode cL_law 348 = .ok (.aload_n 0, 1) := by decide +kernel
theorem dL_law_349 : decode cL_law 349 = .ok (.iload_n 3, 1) := by decide +kernel
theorem dL_law_350 : decode cL_law 350 = .ok (.iconst 1, 1) := by decide +kernel
theorem dL_law_351 : decode cL_law 351 = .ok (.iadd, 1) := by decide +kernel
theorem dL_law_352 : decode cL_law 352 = .ok (.iaload, 1) := by decide +kernel
theorem dL_law_353 : decode cL_law 353 = .ok (.aload_n 0, 1) := by decide +kernel
theorem dL_law_354 : decode cL_law 354 = .ok (.iload_n 3, 1) := by decide +kernel
theorem dL_law_355 : decode cL_law 355 = .ok (.iconst 2, 1) := by decide +kernel
theorem dL_law_356 : decode cL_law 356 = .ok (.iadd, 1) := by decide +kernel
theorem dL_law_357 : decode cL_law 357 = .ok (.iaload, 1) := by decide +kernel
theorem dL_law_358 : decode cL_law 358 = .ok (.invokevirtual 41, 3) := by decide +kernel
theorem dL_law_361 : decode cL_law 361 = .ok (.if_icmp .eq 584, 3) := by decide +kernel
theorem dL_law_364 : decode cL_law 364 = .ok (.iconst 0, 1) := by decide +kernel
theorem dL_law_365 : decode cL_law 365 = .ok (.ireturn, 1) := by decide +kernel
theorem dL_law_366 : decode cL_law 366 = .ok (.aload_n 1, 1) := by decide +kernel
theorem dL_law_367 : decode cL_law 367 = .ok (.aload_n 0, 1) := by decide +kernel
theorem dL_law_368 : decode cL_law 368 = .ok (.iload_n 3, 1) := by decide +kernel
theorem dL_law_369 : decode cL_law 369 = .ok (.iconst 1, 1) := by decide +kernel
theorem dL_law_370 : decode cL_law 370 = .ok (.iadd, 1) := by decide +kernel
theorem dL_law_371 : decode cL_law 371 = .ok (.iaload, 1) := by decide +kernel
theorem dL_law_372 : decode cL_law 372 = .ok (.aload_n 0, 1) := by decide +kernel
theorem dL_law_373 : decode cL_law 373 = .ok (.iload_n 3, 1) := by decide +kernel
theorem dL_law_374 : decode cL_law 374 = .ok (.iconst 2, 1) := by decide +kernel
theorem dL_law_375 : decode cL_law 375 = .ok (.iadd, 1) := by decide +kernel
theorem dL_law_376 : decode cL_law 376 = .ok (.iaload, 1) := by decide +kernel
theorem dL_law_377 : decode cL_law 377 = .ok (.invokevirtual 42, 3) := by decide +kernel
theorem dL_law_380 : decode cL_law 380 = .ok (.aload_n 2, 1) := by decide +kernel
theorem dL_law_381 : decode cL_law 381 = .ok (.aload_n 0, 1) := by decide +kernel
theorem dL_law_382 : decode cL_law 382 = .ok (.iload_n 3, 1) := by decide +kernel
theorem dL_law_383 : decode cL_law 383 = .ok (.iconst 1, 1) := by decide +kernel
theorem dL_law_384 : decode cL_law 384 = .ok (.iadd, 1) := by decide +kernel
theorem dL_law_385 : decode cL_law 385 = .ok (.iaload, 1) := by decide +kernel
theorem dL_law_386 : decode cL_law 386 = .ok (.aload_n 0, 1) := by decide +kernel
theorem dL_law_387 : decode cL_law 387 = .ok (.iload_n 3, 1) := by decide +kernel
theorem dL_law_388 : decode cL_law 388 = .ok (.iconst 2, 1) := by decide +kernel
theorem dL_law_389 : decode cL_law 389 = .ok (.iadd, 1) := by decide +kernel
theorem dL_law_390 : decode cL_law 390 = .ok (.iaload, 1) := by decide +kernel
theorem dL_law_391 : decode cL_law 391 = .ok (.invokevirtual 45, 3) := by decide +kernel
theorem dL_law_394 : decode cL_law 394 = .ok (.if_icmp .eq 551, 3) := by decide +kernel
theorem dL_law_397 : decode cL_law 397 = .ok (.iconst 0, 1) := by decide +kernel
theorem dL_law_398 : decode cL_law 398 = .ok (.ireturn, 1) := by decide +kernel
theorem dL_law_399 : decode cL_law 399 = .ok (.aload_n 1, 1) := by decide +kernel
theorem dL_law_400 : decode cL_law 400 = .ok (.aload_n 0, 1) := by decide +kernel
theorem dL_law_401 : decode cL_law 401 = .ok (.iload_n 3, 1) := by decide +kernel
theorem dL_law_402 : decode cL_law 402 = .ok (.iconst 1, 1) := by decide +kernel
theorem dL_law_403 : decode cL_law 403 = .ok (.iadd, 1) := by decide +kernel
theorem dL_law_404 : decode cL_law 404 = .ok (.iaload, 1) := by decide +kernel
theorem dL_law_405 : decode cL_law 405 = .ok (.invokevirtual 46, 3) := by decide +kernel
theorem dL_law_408 : decode cL_law 408 = .ok (.aload_n 2, 1) := by decide +kernel
theorem dL_law_409 : decode cL_law 409 = .ok (.aload_n 0, 1) := by decide +kernel
theorem dL_law_410 : decode cL_law 410 = .ok (.iload_n 3, 1) := by decide +kernel
theorem dL_law_411 : decode cL_law 411 = .ok (.iconst 1, 1) := by decide +kernel
theorem dL_law_412 : decode cL_law 412 = .ok (.iadd, 1) := by decide +kernel
theorem dL_law_413 : decode cL_law 413 = .ok (.iaload, 1) := by decide +kernel
theorem dL_law_414 : decode cL_law 414 = .ok (.invokevirtual 49, 3) := by decide +kernel
theorem dL_law_417 : decode cL_law 417 = .ok (.if_icmp .eq 528, 3) := by decide +kernel
theorem dL_law_420 : decode cL_law 420 = .ok (.iconst 0, 1) := by decide +kernel
theorem dL_law_421 : decode cL_law 421 = .ok (.ireturn, 1) := by decide +kernel
theorem dL_law_422 : decode cL_law 422 = .ok (.aload_n 1, 1) := by decide +kernel
theorem dL_law_423 : decode cL_law 423 = .ok (.aload_n 0, 1) := by decide +kernel
theorem dL_law_424 : decode cL_law 424 = .ok (.iload_n 3, 1) := by decide +kernel
theorem dL_law_425 : decode cL_law 425 = .ok (.iconst 1, 1) := by decide +kernel
theorem dL_law_426 : decode cL_law 426 = .ok (.iadd, 1) := by decide +kernel
theorem dL_law_427 : decode cL_law 427 = .ok (.iaload, 1) := by decide +kernel
theorem dL_law_428 : decode cL_law 428 = .ok (.invokevirtual 50, 3) := by decide +kernel
theorem dL_law_431 : decode cL_law 431 = .ok (.aload_n 2, 1) := by decide +kernel
theorem dL_law_432 : decode cL_law 432 = .ok (.aload_n 0, 1) := by decide +kernel
theorem dL_law_433 : decode cL_law 433 = .ok (.iload_n 3, 1) := by decide +kernel
theorem dL_law_434 : decode cL_law 434 = .ok (.iconst 1, 1) := by decide +kernel
theorem dL_law_435 : decode cL_law 435 = .ok (.iadd, 1) := by decide +kernel
theorem dL_law_436 : decode cL_law 436 = .ok (.iaload, 1) := by decide +kernel
theorem dL_law_437 : decode cL_law 437 = .ok (.invokevirtual 53, 3) := by decide +kernel
theorem dL_law_440 : decode cL_law 440 = .ok (.if_icmp .eq 505, 3) := by decide +kernel
theorem dL_law_443 : decode cL_law 443 = .ok (.iconst 0, 1) := by decide +kernel
theorem dL_law_444 : decode cL_law 444 = .ok (.ireturn, 1) := by decide +kernel
theorem dL_law_445 : decode cL_law 445 = .ok (.aload_n 1, 1) := by decide +kernel
theorem dL_law_446 : decode cL_law 446 = .ok (.aload_n 0, 1) := by decide +kernel
theorem dL_law_447 : decode cL_law 447 = .ok (.iload_n 3, 1) := by decide +kernel
theorem dL_law_448 : decode cL_law 448 = .ok (.iconst 1, 1) := by decide +kernel
theorem dL_law_449 : decode cL_law 449 = .ok (.iadd, 1) := by decide +kernel
theorem dL_law_450 : decode cL_law 450 = .ok (.iaload, 1) := by decide +kernel
theorem dL_law_451 : decode cL_law 451 = .ok (.invokevirtual 54, 3) := by decide +kernel
theorem dL_law_454 : decode cL_law 454 = .ok (.aload_n 2, 1) := by decide +kernel
theorem dL_law_455 : decode cL_law 455 = .ok (.aload_n 0, 1) := by decide +kernel
theorem dL_law_456 : decode cL_law 456 = .ok (.iload_n 3, 1) := by decide +kernel
theorem dL_law_457 : decode cL_law 457 = .ok (.iconst 1, 1) := by decide +kernel
theorem dL_law_458 : decode cL_law 458 = .ok (.iadd, 1) := by decide +kernel
theorem dL_law_459 : decode cL_law 459 = .ok (.iaload, 1) := by decide +kernel
theorem dL_law_460 : decode cL_law 460 = .ok (.invokevirtual 57, 3) := by decide +kernel
theorem dL_law_463 : decode cL_law 463 = .ok (.if_icmp .eq 482, 3) := by decide +kernel
theorem dL_law_466 : decode cL_law 466 = .ok (.iconst 0, 1) := by decide +kernel
theorem dL_law_467 : decode cL_law 467 = .ok (.ireturn, 1) := by decide +kernel
theorem dL_law_468 : decode cL_law 468 = .ok (.aload_n 1, 1) := by decide +kernel
theorem dL_law_469 : decode cL_law 469 = .ok (.aload_n 0, 1) := by decide +kernel
theorem dL_law_470 : decode cL_law 470 = .ok (.iload_n 3, 1) := by decide +kernel
theorem dL_law_471 : decode cL_law 471 = .ok (.iconst 1, 1) := by decide +kernel
theorem dL_law_472 : decode cL_law 472 = .ok (.iadd, 1) := by decide +kernel
theorem dL_law_473 : decode cL_law 473 = .ok (.iaload, 1) := by decide +kernel
theorem dL_law_474 : decode cL_law 474 = .ok (.invokevirtual 58, 3) := by decide +kernel
theorem dL_law_477 : decode cL_law 477 = .ok (.aload_n 2, 1) := by decide +kernel
theorem dL_law_478 : decode cL_law 478 = .ok (.aload_n 0, 1) := by decide +kernel
theorem dL_law_479 : decode cL_law 479 = .ok (.iload_n 3, 1) := by decide +kernel
theorem dL_law_480 : decode cL_law 480 = .ok (.iconst 1, 1) := by decide +kernel
theorem dL_law_481 : decode cL_law 481 = .ok (.iadd, 1) := by decide +kernel
theorem dL_law_482 : decode cL_law 482 = .ok (.iaload, 1) := by decide +kernel
theorem dL_law_483 : decode cL_law 483 = .ok (.invokevirtual 61, 3) := by decide +kernel
theorem dL_law_486 : decode cL_law 486 = .ok (.if_icmp .eq 459, 3) := by decide +kernel
theorem dL_law_489 : decode cL_law 489 = .ok (.iconst 0, 1) := by decide +kernel
theorem dL_law_490 : decode cL_law 490 = .ok (.ireturn, 1) := by decide +kernel
theorem dL_law_491 : decode cL_law 491 = .ok (.aload_n 1, 1) := by decide +kernel
theorem dL_law_492 : decode cL_law 492 = .ok (.aload_n 0, 1) := by decide +kernel
theorem dL_law_493 : decode cL_law 493 = .ok (.iload_n 3, 1) := by decide +kernel
theorem dL_law_494 : decode cL_law 494 = .ok (.iconst 1, 1) := by decide +kernel
theorem dL_law_495 : decode cL_law 495 = .ok (.iadd, 1) := by decide +kernel
theorem dL_law_496 : decode cL_law 496 = .ok (.iaload, 1) := by decide +kernel
theorem dL_law_497 : decode cL_law 497 = .ok (.invokevirtual 62, 3) := by decide +kernel
theorem dL_law_500 : decode cL_law 500 = .ok (.aload_n 2, 1) := by decide +kernel
theorem dL_law_501 : decode cL_law 501 = .ok (.aload_n 0, 1) := by decide +kernel
theorem dL_law_502 : decode cL_law 502 = .ok (.iload_n 3, 1) := by decide +kernel
theorem dL_law_503 : decode cL_law 503 = .ok (.iconst 1, 1) := by decide +kernel
theorem dL_law_504 : decode cL_law 504 = .ok (.iadd, 1) := by decide +kernel
theorem dL_law_505 : decode cL_law 505 = .ok (.iaload, 1) := by decide +kernel
theorem dL_law_506 : decode cL_law 506 = .ok (.invokevirtual 65, 3) := by decide +kernel
theorem dL_law_509 : decode cL_law 509 = .ok (.if_icmp .eq 436, 3) := by decide +kernel
theorem dL_law_512 : decode cL_law 512 = .ok (.iconst 0, 1) := by decide +kernel
theorem dL_law_513 : decode cL_law 513 = .ok (.ireturn, 1) := by decide +kernel
theorem dL_law_514 : decode cL_law 514 = .ok (.aload_n 1, 1) := by decide +kernel
theorem dL_law_515 : decode cL_law 515 = .ok (.aload_n 0, 1) := by decide +kernel
theorem dL_law_516 : decode cL_law 516 = .ok (.iload_n 3, 1) := by decide +kernel
theorem dL_law_517 : decode cL_law 517 = .ok (.iconst 1, 1) := by decide +kernel
theorem dL_law_518 : decode cL_law 518 = .ok (.iadd, 1) := by decide +kernel
theorem dL_law_519 : decode cL_law 519 = .ok (.iaload, 1) := by decide +kernel
theorem dL_law_520 : decode cL_law 520 = .ok (.invokevirtual 66, 3) := by decide +kernel
theorem dL_law_523 : decode cL_law 523 = .ok (.aload_n 2, 1) := by decide +kernel
theorem dL_law_524 : decode cL_law 524 = .ok (.aload_n 0, 1) := by decide +kernel
theorem dL_law_525 : decode cL_law 525 = .ok (.iload_n 3, 1) := by decide +kernel
theorem dL_law_526 : decode cL_law 526 = .ok (.iconst 1, 1) := by decide +kernel
theorem dL_law_527 : decode cL_law 527 = .ok (.iadd, 1) := by decide +kernel
theorem dL_law_528 : decode cL_law 528 = .ok (.iaload, 1) := by decide +kernel
theorem dL_law_529 : decode cL_law 529 = .ok (.invokevirtual 69, 3) := by decide +kernel
theorem dL_law_532 : decode cL_law 532 = .ok (.if_icmp .eq 413, 3) := by decide +kernel
theorem dL_law_535 : decode cL_law 535 = .ok (.iconst 0, 1) := by decide +kernel
theorem dL_law_536 : decode cL_law 536 = .ok (.ireturn, 1) := by decide +kernel
theorem dL_law_537 : decode cL_law 537 = .ok (.aload_n 1, 1) := by decide +kernel
theorem dL_law_538 : decode cL_law 538 = .ok (.aload_n 0, 1) := by decide +kernel
theorem dL_law_539 : decode cL_law 539 = .ok (.iload_n 3, 1) := by decide +kernel
theorem dL_law_540 : decode cL_law 540 = .ok (.iconst 1, 1) := by decide +kernel
theorem dL_law_541 : decode cL_law 541 = .ok (.iadd, 1) := by decide +kernel
theorem dL_law_542 : decode cL_law 542 = .ok (.iaload, 1) := by decide +kernel
theorem dL_law_543 : decode cL_law 543 = .ok (.aload_n 0, 1) := by decide +kernel
theorem dL_law_544 : decode cL_law 544 = .ok (.iload_n 3, 1) := by decide +kernel
theorem dL_law_545 : decode cL_law 545 = .ok (.iconst 2, 1) := by decide +kernel
theorem dL_law_546 : decode cL_law 546 = .ok (.iadd, 1) := by decide +kernel
theorem dL_law_547 : decode cL_law 547 = .ok (.iaload, 1) := by decide +kernel
theorem dL_law_548 : decode cL_law 548 = .ok (.aload_n 0, 1) := by decide +kernel
theorem dL_law_549 : decode cL_law 549 = .ok (.iload_n 3, 1) := by decide +kernel
theorem dL_law_550 : decode cL_law 550 = .ok (.iconst 3, 1) := by decide +kernel
theorem dL_law_551 : decode cL_law 551 = .ok (.iadd, 1) := by decide +kernel
theorem dL_law_552 : decode cL_law 552 = .ok (.iaload, 1) := by decide +kernel
theorem dL_law_553 : decode cL_law 553 = .ok (.invokevirtual 70, 3) := by decide +kernel
theorem dL_law_556 : decode cL_law 556 = .ok (.aload_n 2, 1) := by decide +kernel
theorem dL_law_557 : decode cL_law 557 = .ok (.aload_n 0, 1) := by decide +kernel
theorem dL_law_558 : decode cL_law 558 = .ok (.iload_n 3, 1) := by decide +kernel
theorem dL_law_559 : decode cL_law 559 = .ok (.iconst 1, 1) := by decide +kernel
theorem dL_law_560 : decode cL_law 560 = .ok (.iadd, 1) := by decide +kernel
theorem dL_law_561 : decode cL_law 561 = .ok (.iaload, 1) := by decide +kernel
theorem dL_law_562 : decode cL_law 562 = .ok (.aload_n 0, 1) := by decide +kernel
theorem dL_law_563 : decode cL_law 563 = .ok (.iload_n 3, 1) := by decide +kernel
theorem dL_law_564 : decode cL_law 564 = .ok (.iconst 2, 1) := by decide +kernel
theorem dL_law_565 : decode cL_law 565 = .ok (.iadd, 1) := by decide +kernel
theorem dL_law_566 : decode cL_law 566 = .ok (.iaload, 1) := by decide +kernel
theorem dL_law_567 : decode cL_law 567 = .ok (.aload_n 0, 1) := by decide +kernel
theorem dL_law_568 : decode cL_law 568 = .ok (.iload_n 3, 1) := by decide +kernel
theorem dL_law_569 : decode cL_law 569 = .ok (.iconst 3, 1) := by decide +kernel
theorem dL_law_570 : decode cL_law 570 = .ok (.iadd, 1) := by decide +kernel
theorem dL_law_571 : decode cL_law 571 = .ok (.iaload, 1) := by decide +kernel
theorem dL_law_572 : decode cL_law 572 = .ok (.invokevirtual 74, 3) := by decide +kernel
theorem dL_law_575 : decode cL_law 575 = .ok (.if_icmp .eq 370, 3) := by decide +kernel
theorem dL_law_578 : decode cL_law 578 = .ok (.iconst 0, 1) := by decide +kernel
theorem dL_law_579 : decode cL_law 579 = .ok (.ireturn, 1) := by decide +kernel
theorem dL_law_580 : decode cL_law 580 = .ok (.aload_n 1, 1) := by decide +kernel
theorem dL_law_581 : decode cL_law 581 = .ok (.aload_n 0, 1) := by decide +kernel
theorem dL_law_582 : decode cL_law 582 = .ok (.iload_n 3, 1) := by decide +kernel
theorem dL_law_583 : decode cL_law 583 = .ok (.iconst 1, 1) := by decide +kernel
theorem dL_law_584 : decode cL_law 584 = .ok (.iadd, 1) := by decide +kernel
theorem dL_law_585 : decode cL_law 585 = .ok (.iaload, 1) := by decide +kernel
theorem dL_law_586 : decode cL_law 586 = .ok (.invokevirtual 75, 3) := by decide +kernel
theorem dL_law_589 : decode cL_law 589 = .ok (.aload_n 2, 1) := by decide +kernel
theorem dL_law_590 : decode cL_law 590 = .ok (.aload_n 0, 1) := by decide +kernel
theorem dL_law_591 : decode cL_law 591 = .ok (.iload_n 3, 1) := by decide +kernel
theorem dL_law_592 : decode cL_law 592 = .ok (.iconst 1, 1) := by decide +kernel
theorem dL_law_593 : decode cL_law 593 = .ok (.iadd, 1) := by decide +kernel
theorem dL_law_594 : decode cL_law 594 = .ok (.iaload, 1) := by decide +kernel
theorem dL_law_595 : decode cL_law 595 = .ok (.invokevirtual 78, 3) := by decide +kernel
theorem dL_law_598 : decode cL_law 598 = .ok (.if_icmp .eq 347, 3) := by decide +kernel
theorem dL_law_601 : decode cL_law 601 = .ok (.iconst 0, 1) := by decide +kernel
theorem dL_law_602 : decode cL_law 602 = .ok (.ireturn, 1) := by decide +kernel
theorem dL_law_603 : decode cL_law 603 = .ok (.aload_n 1, 1) := by decide +kernel
theorem dL_law_604 : decode cL_law 604 = .ok (.aload_n 0, 1) := by decide +kernel
theorem dL_law_605 : decode cL_law 605 = .ok (.iload_n 3, 1) := by decide +kernel
theorem dL_law_606 : decode cL_law 606 = .ok (.iconst 1, 1) := by decide +kernel
theorem dL_law_607 : decode cL_law 607 = .ok (.iadd, 1) := by decide +kernel
theorem dL_law_608 : decode cL_law 608 = .ok (.iaload, 1) := by decide +kernel
theorem dL_law_609 : decode cL_law 609 = .ok (.invokevirtual 79, 3) := by decide +kernel
theorem dL_law_612 : decode cL_law 612 = .ok (.aload_n 2, 1) := by decide +kernel
theorem dL_law_613 : decode cL_law 613 = .ok (.aload_n 0, 1) := by decide +kernel
theorem dL_law_614 : decode cL_law 614 = .ok (.iload_n 3, 1) := by decide +kernel
theorem dL_law_615 : decode cL_law 615 = .ok (.iconst 1, 1) := by decide +kernel
theorem dL_law_616 : decode cL_law 616 = .ok (.iadd, 1) := by decide +kernel
theorem dL_law_617 : decode cL_law 617 = .ok (.iaload, 1) := by decide +kernel
theorem dL_law_618 : decode cL_law 618 = .ok (.invokevirtual 82, 3) := by decide +kernel
theorem dL_law_621 : decode cL_law 621 = .ok (.if_icmp .eq 324, 3) := by decide +kernel
theorem dL_law_624 : decode cL_law 624 = .ok (.iconst 0, 1) := by decide +kernel
theorem dL_law_625 : decode cL_law 625 = .ok (.ireturn, 1) := by decide +kernel
theorem dL_law_626 : decode cL_law 626 = .ok (.aload_n 1, 1) := by decide +kernel
theorem dL_law_627 : decode cL_law 627 = .ok (.aload_n 0, 1) := by decide +kernel
theorem dL_law_628 : decode cL_law 628 = .ok (.iload_n 3, 1) := by decide +kernel
theorem dL_law_629 : decode cL_law 629 = .ok (.iconst 1, 1) := by decide +kernel
theorem dL_law_630 : decode cL_law 630 = .ok (.iadd, 1) := by decide +kernel
theorem dL_law_631 : decode cL_law 631 = .ok (.iaload, 1) := by decide +kernel
theorem dL_law_632 : decode cL_law 632 = .ok (.aload_n 0, 1) := by decide +kernel
theorem dL_law_633 : decode cL_law 633 = .ok (.iload_n 3, 1) := by decide +kernel
theorem dL_law_634 : decode cL_law 634 = .ok (.iconst 2, 1) := by decide +kernel
theorem dL_law_635 : decode cL_law 635 = .ok (.iadd, 1) := by decide +kernel
theorem dL_law_636 : decode cL_law 636 = .ok (.iaload, 1) := by decide +kernel
theorem dL_law_637 : decode cL_law 637 = .ok (.invokevirtual 83, 3) := by decide +kernel
theorem dL_law_640 : decode cL_law 640 = .ok (.aload_n 2, 1) := by decide +kernel
theorem dL_law_641 : decode cL_law 641 = .ok (.aload_n 0, 1) := by decide +kernel
theorem dL_law_642 : decode cL_law 642 = .ok (.iload_n 3, 1) := by decide +kernel
theorem dL_law_643 : decode cL_law 643 = .ok (.iconst 1, 1) := by decide +kernel
theorem dL_law_644 : decode cL_law 644 = .ok (.iadd, 1) := by decide +kernel
theorem dL_law_645 : decode cL_law 645 = .ok (.iaload, 1) := by decide +kernel
theorem dL_law_646 : decode cL_law 646 = .ok (.aload_n 0, 1) := by decide +kernel
theorem dL_law_647 : decode cL_law 647 = .ok (.iload_n 3, 1) := by decide +kernel
theorem dL_law_648 : decode cL_law 648 = .ok (.iconst 2, 1) := by decide +kernel
theorem dL_law_649 : decode cL_law 649 = .ok (.iadd, 1) := by decide +kernel
theorem dL_law_650 : decode cL_law 650 = .ok (.iaload, 1) := by decide +kernel
theorem dL_law_651 : decode cL_law 651 = .ok (.invokevirtual 86, 3) := by decide +kernel
theorem dL_law_654 : decode cL_law 654 = .ok (.if_icmp .eq 291, 3) := by decide +kernel
theorem dL_law_657 : decode cL_law 657 = .ok (.iconst 0, 1) := by decide +kernel
theorem dL_law_658 : decode cL_law 658 = .ok (.ireturn, 1) := by decide +kernel
theorem dL_law_659 : decode cL_law 659 = .ok (.aload_n 1, 1) := by decide +kernel
theorem dL_law_660 : decode cL_law 660 = .ok (.aload_n 0, 1) := by decide +kernel
theorem dL_law_661 : decode cL_law 661 = .ok (.iload_n 3, 1) := by decide +kernel
theorem dL_law_662 : decode cL_law 662 = .ok (.iconst 1, 1) := by decide +kernel
theorem dL_law_663 : decode cL_law 663 = .ok (.iadd, 1) := by decide +kernel
theorem dL_law_664 : decode cL_law 664 = .ok (.iaload, 1) := by decide +kernel
theorem dL_law_665 : decode cL_law 665 = .ok (.aload_n 0, 1) := by decide +kernel
theorem dL_law_666 : decode cL_law 666 = .ok (.iload_n 3, 1) := by decide +kernel
theorem dL_law_667 : decode cL_law 667 = .ok (.iconst 2, 1) := by decide +kernel
theorem dL_law_668 : decode cL_law 668 = .ok (.iadd, 1) := by decide +kernel
theorem dL_law_669 : decode cL_law 669 = .ok (.iaload, 1) := by decide +kernel
theorem dL_law_670 : decode cL_law 670 = .ok (.aload_n 0, 1) := by decide +kernel
theorem dL_law_671 : decode cL_law 671 = .ok (.iload_n 3, 1) := by decide +kernel
theorem dL_law_672 : decode cL_law 672 = .ok (.iconst 3, 1) := by decide +kernel
theorem dL_law_673 : decode cL_law 673 = .ok (.iadd, 1) := by decide +kernel
theorem dL_law_674 : decode cL_law 674 = .ok (.iaload, 1) := by decide +kernel
theorem dL_law_675 : decode cL_law 675 = .ok (.invokevirtual 87, 3) := by decide +kernel
theorem dL_law_678 : decode cL_law 678 = .ok (.aload_n 2, 1) := by decide +kernel
theorem dL_law_679 : decode cL_law 679 = .ok (.aload_n 0, 1) := by decide +kernel
theorem dL_law_680 : decode cL_law 680 = .ok (.iload_n 3, 1) := by decide +kernel
theorem dL_law_681 : decode cL_law 681 = .ok (.iconst 1, 1) := by decide +kernel
theorem dL_law_682 : decode cL_law 682 = .ok (.iadd, 1) := by decide +kernel
theorem dL_law_683 : decode cL_law 683 = .ok (.iaload, 1) := by decide +kernel
theorem dL_law_684 : decode cL_law 684 = .ok (.aload_n 0, 1) := by decide +kernel
theorem dL_law_685 : decode cL_law 685 = .ok (.iload_n 3, 1) := by decide +kernel
theorem dL_law_686 : decode cL_law 686 = .ok (.iconst 2, 1) := by decide +kernel
theorem dL_law_687 : decode cL_law 687 = .ok (.iadd, 1) := by decide +kernel
theorem dL_law_688 : decode cL_law 688 = .ok (.iaload, 1) := by decide +kernel
theorem dL_law_689 : decode cL_law 689 = .ok (.aload_n 0, 1) := by decide +kernel
theorem dL_law_690 : decode cL_law 690 = .ok (.iload_n 3, 1) := by decide +kernel
theorem dL_law_691 : decode cL_law 691 = .ok (.iconst 3, 1) := by decide +kernel
theorem dL_law_692 : decode cL_law 692 = .ok (.iadd, 1) := by decide +kernel
theorem dL_law_693 : decode cL_law 693 = .ok (.iaload, 1) := by decide +kernel
theorem dL_law_694 : decode cL_law 694 = .ok (.invokevirtual 90, 3) := by decide +kernel
theorem dL_law_697 : decode cL_law 697 = .ok (.if_icmp .eq 248, 3) := by decide +kernel
theorem dL_law_700 : decode cL_law 700 = .ok (.iconst 0, 1) := by decide +kernel
theorem dL_law_701 : decode cL_law 701 = .ok (.ireturn, 1) := by decide +kernel
theorem dL_law_702 : decode cL_law 702 = .ok (.aload_n 1, 1) := by decide +kernel
theorem dL_law_703 : decode cL_law 703 = .ok (.aload_n 0, 1) := by decide +kernel
theorem dL_law_704 : decode cL_law 704 = .ok (.iload_n 3, 1) := by decide +kernel
theorem dL_law_705 : decode cL_law 705 = .ok (.iconst 1, 1) := by decide +kernel
theorem dL_law_706 : decode cL_law 706 = .ok (.iadd, 1) := by decide +kernel
theorem dL_law_707 : decode cL_law 707 = .ok (.iaload, 1) := by decide +kernel
theorem dL_law_708 : decode cL_law 708 = .ok (.aload_n 0, 1) := by decide +kernel
theorem dL_law_709 : decode cL_law 709 = .ok (.iload_n 3, 1) := by decide +kernel
theorem dL_law_710 : decode cL_law 710 = .ok (.iconst 2, 1) := by decide +kernel
theorem dL_law_711 : decode cL_law 711 = .ok (.iadd, 1) := by decide +kernel
theorem dL_law_712 : decode cL_law 712 = .ok (.iaload, 1) := by decide +kernel
theorem dL_law_713 : decode cL_law 713 = .ok (.invokevirtual 91, 3) := by decide +kernel
theorem dL_law_716 : decode cL_law 716 = .ok (.aload_n 2, 1) := by decide +kernel
theorem dL_law_717 : decode cL_law 717 = .ok (.aload_n 0, 1) := by decide +kernel
theorem dL_law_718 : decode cL_law 718 = .ok (.iload_n 3, 1) := by decide +kernel
theorem dL_law_719 : decode cL_law 719 = .ok (.iconst 1, 1) := by decide +kernel
theorem dL_law_720 : decode cL_law 720 = .ok (.iadd, 1) := by decide +kernel
theorem dL_law_721 : decode cL_law 721 = .ok (.iaload, 1) := by decide +kernel
theorem dL_law_722 : decode cL_law 722 = .ok (.aload_n 0, 1) := by decide +kernel
theorem dL_law_723 : decode cL_law 723 = .ok (.iload_n 3, 1) := by decide +kernel
theorem dL_law_724 : decode cL_law 724 = .ok (.iconst 2, 1) := by decide +kernel
theorem dL_law_725 : decode cL_law 725 = .ok (.iadd, 1) := by decide +kernel
theorem dL_law_726 : decode cL_law 726 = .ok (.iaload, 1) := by decide +kernel
theorem dL_law_727 : decode cL_law 727 = .ok (.invokevirtual 95, 3) := by decide +kernel
theorem dL_law_730 : decode cL_law 730 = .ok (.lcmp, 1) := by decide +kernel
theorem dL_law_731 : decode cL_law 731 = .ok (.ifCond .eq 214, 3) := by decide +kernel
theorem dL_law_734 : decode cL_law 734 = .ok (.iconst 0, 1) := by decide +kernel
theorem dL_law_735 : decode cL_law 735 = .ok (.ireturn, 1) := by decide +kernel
theorem dL_law_736 : decode cL_law 736 = .ok (.aload_n 1, 1) := by decide +kernel
theorem dL_law_737 : decode cL_law 737 = .ok (.aload_n 0, 1) := by decide +kernel
theorem dL_law_738 : decode cL_law 738 = .ok (.iload_n 3, 1) := by decide +kernel
theorem dL_law_739 : decode cL_law 739 = .ok (.iconst 1, 1) := by decide +kernel
theorem dL_law_740 : decode cL_law 740 = .ok (.iadd, 1) := by decide +kernel
theorem dL_law_741 : decode cL_law 741 = .ok (.iaload, 1) := by decide +kernel
theorem dL_law_742 : decode cL_law 742 = .ok (.aload_n 0, 1) := by decide +kernel
theorem dL_law_743 : decode cL_law 743 = .ok (.iload_n 3, 1) := by decide +kernel
theorem dL_law_744 : decode cL_law 744 = .ok (.iconst 2, 1) := by decide +kernel
theorem dL_law_745 : decode cL_law 745 = .ok (.iadd, 1) := by decide +kernel
theorem dL_law_746 : decode cL_law 746 = .ok (.iaload, 1) := by decide +kernel
theorem dL_law_747 : decode cL_law 747 = .ok (.aload_n 0, 1) := by decide +kernel
theorem dL_law_748 : decode cL_law 748 = .ok (.iload_n 3, 1) := by decide +kernel
theorem dL_law_749 : decode cL_law 749 = .ok (.iconst 3, 1) := by decide +kernel
theorem dL_law_750 : decode cL_law 750 = .ok (.iadd, 1) := by decide +kernel
theorem dL_law_751 : decode cL_law 751 = .ok (.iaload, 1) := by decide +kernel
theorem dL_law_752 : decode cL_law 752 = .ok (.aload_n 0, 1) := by decide +kernel
theorem dL_law_753 : decode cL_law 753 = .ok (.iload_n 3, 1) := by decide +kernel
theorem dL_law_754 : decode cL_law 754 = .ok (.iconst 4, 1) := by decide +kernel
theorem dL_law_755 : decode cL_law 755 = .ok (.iadd, 1) := by decide +kernel
theorem dL_law_756 : decode cL_law 756 = .ok (.iaload, 1) := by decide +kernel
theorem dL_law_757 : decode cL_law 757 = .ok (.invokevirtual 96, 3) := by decide +kernel
theorem dL_law_760 : decode cL_law 760 = .ok (.aload_n 2, 1) := by decide +kernel
theorem dL_law_761 : decode cL_law 761 = .ok (.aload_n 0, 1) := by decide +kernel
theorem dL_law_762 : decode cL_law 762 = .ok (.iload_n 3, 1) := by decide +kernel
theorem dL_law_763 : decode cL_law 763 = .ok (.iconst 1, 1) := by decide +kernel
theorem dL_law_764 : decode cL_law 764 = .ok (.iadd, 1) := by decide +kernel
theorem dL_law_765 : decode cL_law 765 = .ok (.iaload, 1) := by decide +kernel
theorem dL_law_766 : decode cL_law 766 = .ok (.aload_n 0, 1) := by decide +kernel
theorem dL_law_767 : decode cL_law 767 = .ok (.iload_n 3, 1) := by decide +kernel
theorem dL_law_768 : decode cL_law 768 = .ok (.iconst 2, 1) := by decide +kernel
theorem dL_law_769 : decode cL_law 769 = .ok (.iadd, 1) := by decide +kernel
theorem dL_law_770 : decode cL_law 770 = .ok (.iaload, 1) := by decide +kernel
theorem dL_law_771 : decode cL_law 771 = .ok (.aload_n 0, 1) := by decide +kernel
theorem dL_law_772 : decode cL_law 772 = .ok (.iload_n 3, 1) := by decide +kernel
theorem dL_law_773 : decode cL_law 773 = .ok (.iconst 3, 1) := by decide +kernel
theorem dL_law_774 : decode cL_law 774 = .ok (.iadd, 1) := by decide +kernel
theorem dL_law_775 : decode cL_law 775 = .ok (.iaload, 1) := by decide +kernel
theorem dL_law_776 : decode cL_law 776 = .ok (.aload_n 0, 1) := by decide +kernel
theorem dL_law_777 : decode cL_law 777 = .ok (.iload_n 3, 1) := by decide +kernel
theorem dL_law_778 : decode cL_law 778 = .ok (.iconst 4, 1) := by decide +kernel
theorem dL_law_779 : decode cL_law 779 = .ok (.iadd, 1) := by decide +kernel
theorem dL_law_780 : decode cL_law 780 = .ok (.iaload, 1) := by decide +kernel
theorem dL_law_781 : decode cL_law 781 = .ok (.invokevirtual 100, 3) := by decide +kernel
theorem dL_law_784 : decode cL_law 784 = .ok (.if_icmp .eq 161, 3) := by decide +kernel
theorem dL_law_787 : decode cL_law 787 = .ok (.iconst 0, 1) := by decide +kernel
theorem dL_law_788 : decode cL_law 788 = .ok (.ireturn, 1) := by decide +kernel
theorem dL_law_789 : decode cL_law 789 = .ok (.aload_n 1, 1) := by decide +kernel
theorem dL_law_790 : decode cL_law 790 = .ok (.aload_n 0, 1) := by decide +kernel
theorem dL_law_791 : decode cL_law 791 = .ok (.iload_n 3, 1) := by decide +kernel
theorem dL_law_792 : decode cL_law 792 = .ok (.iconst 1, 1) := by decide +kernel
theorem dL_law_793 : decode cL_law 793 = .ok (.iadd, 1) := by decide +kernel
theorem dL_law_794 : decode cL_law 794 = .ok (.iaload, 1) := by decide +kernel
theorem dL_law_795 : decode cL_law 795 = .ok (.aload_n 0, 1) := by decide +kernel
theorem dL_law_796 : decode cL_law 796 = .ok (.iload_n 3, 1) := by decide +kernel
theorem dL_law_797 : decode cL_law 797 = .ok (.iconst 2, 1) := by decide +kernel
theorem dL_law_798 : decode cL_law 798 = .ok (.iadd, 1) := by decide +kernel
theorem dL_law_799 : decode cL_law 799 = .ok (.iaload, 1) := by decide +kernel
theorem dL_law_800 : decode cL_law 800 = .ok (.invokevirtual 101, 3) := by decide +kernel
theorem dL_law_803 : decode cL_law 803 = .ok (.aload_n 2, 1) := by decide +kernel
theorem dL_law_804 : decode cL_law 804 = .ok (.aload_n 0, 1) := by decide +kernel
theorem dL_law_805 : decode cL_law 805 = .ok (.iload_n 3, 1) := by decide +kernel
theorem dL_law_806 : decode cL_law 806 = .ok (.iconst 1, 1) := by decide +kernel
theorem dL_law_807 : decode cL_law 807 = .ok (.iadd, 1) := by decide +kernel
theorem dL_law_808 : decode cL_law 808 = .ok (.iaload, 1) := by decide +kernel
theorem dL_law_809 : decode cL_law 809 = .ok (.aload_n 0, 1) := by decide +kernel
theorem dL_law_810 : decode cL_law 810 = .ok (.iload_n 3, 1) := by decide +kernel
theorem dL_law_811 : decode cL_law 811 = .ok (.iconst 2, 1) := by decide +kernel
theorem dL_law_812 : decode cL_law 812 = .ok (.iadd, 1) := by decide +kernel
theorem dL_law_813 : decode cL_law 813 = .ok (.iaload, 1) := by decide +kernel
theorem dL_law_814 : decode cL_law 814 = .ok (.invokevirtual 104, 3) := by decide +kernel
theorem dL_law_817 : decode cL_law 817 = .ok (.if_icmp .eq 128, 3) := by decide +kernel
theorem dL_law_820 : decode cL_law 820 = .ok (.iconst 0, 1) := by decide +kernel
theorem dL_law_821 : decode cL_law 821 = .ok (.ireturn, 1) := by decide +kernel
theorem dL_law_822 : decode cL_law 822 = .ok (.aload_n 1, 1) := by decide +kernel
theorem dL_law_823 : decode cL_law 823 = .ok (.aload_n 0, 1) := by decide +kernel
theorem dL_law_824 : decode cL_law 824 = .ok (.iload_n 3, 1) := by decide +kernel
theorem dL_law_825 : decode cL_law 825 = .ok (.iconst 1, 1) := by decide +kernel
theorem dL_law_826 : decode cL_law 826 = .ok (.iadd, 1) := by decide +kernel
theorem dL_law_827 : decode cL_law 827 = .ok (.iaload, 1) := by decide +kernel
theorem dL_law_828 : decode cL_law 828 = .ok (.aload_n 0, 1) := by decide +kernel
theorem dL_law_829 : decode cL_law 829 = .ok (.iload_n 3, 1) := by decide +kernel
theorem dL_law_830 : decode cL_law 830 = .ok (.iconst 2, 1) := by decide +kernel
theorem dL_law_831 : decode cL_law 831 = .ok (.iadd, 1) := by decide +kernel
theorem dL_law_832 : decode cL_law 832 = .ok (.iaload, 1) := by decide +kernel
theorem dL_law_833 : decode cL_law 833 = .ok (.invokevirtual 105, 3) := by decide +kernel
theorem dL_law_836 : decode cL_law 836 = .ok (.aload_n 2, 1) := by decide +kernel
theorem dL_law_837 : decode cL_law 837 = .ok (.aload_n 0, 1) := by decide +kernel
theorem dL_law_838 : decode cL_law 838 = .ok (.iload_n 3, 1) := by decide +kernel
theorem dL_law_839 : decode cL_law 839 = .ok (.iconst 1, 1) := by decide +kernel
theorem dL_law_840 : decode cL_law 840 = .ok (.iadd, 1) := by decide +kernel
theorem dL_law_841 : decode cL_law 841 = .ok (.iaload, 1) := by decide +kernel
theorem dL_law_842 : decode cL_law 842 = .ok (.aload_n 0, 1) := by decide +kernel
theorem dL_law_843 : decode cL_law 843 = .ok (.iload_n 3, 1) := by decide +kernel
theorem dL_law_844 : decode cL_law 844 = .ok (.iconst 2, 1) := by decide +kernel
theorem dL_law_845 : decode cL_law 845 = .ok (.iadd, 1) := by decide +kernel
theorem dL_law_846 : decode cL_law 846 = .ok (.iaload, 1) := by decide +kernel
theorem dL_law_847 : decode cL_law 847 = .ok (.invokevirtual 108, 3) := by decide +kernel
theorem dL_law_850 : decode cL_law 850 = .ok (.if_icmp .eq 95, 3) := by decide +kernel
theorem dL_law_853 : decode cL_law 853 = .ok (.iconst 0, 1) := by decide +kernel
theorem dL_law_854 : decode cL_law 854 = .ok (.ireturn, 1) := by decide +kernel
theorem dL_law_855 : decode cL_law 855 = .ok (.aload_n 1, 1) := by decide +kernel
theorem dL_law_856 : decode cL_law 856 = .ok (.aload_n 0, 1) := by decide +kernel
theorem dL_law_857 : decode cL_law 857 = .ok (.iload_n 3, 1) := by decide +kernel
theorem dL_law_858 : decode cL_law 858 = .ok (.iconst 1, 1) := by decide +kernel
theorem dL_law_859 : decode cL_law 859 = .ok (.iadd, 1) := by decide +kernel
theorem dL_law_860 : decode cL_law 860 = .ok (.iaload, 1) := by decide +kernel
theorem dL_law_861 : decode cL_law 861 = .ok (.aload_n 0, 1) := by decide +kernel
theorem dL_law_862 : decode cL_law 862 = .ok (.iload_n 3, 1) := by decide +kernel
theorem dL_law_863 : decode cL_law 863 = .ok (.iconst 2, 1) := by decide +kernel
theorem dL_law_864 : decode cL_law 864 = .ok (.iadd, 1) := by decide +kernel
theorem dL_law_865 : decode cL_law 865 = .ok (.iaload, 1) := by decide +kernel
theorem dL_law_866 : decode cL_law 866 = .ok (.invokevirtual 109, 3) := by decide +kernel
theorem dL_law_869 : decode cL_law 869 = .ok (.aload_n 2, 1) := by decide +kernel
theorem dL_law_870 : decode cL_law 870 = .ok (.aload_n 0, 1) := by decide +kernel
theorem dL_law_871 : decode cL_law 871 = .ok (.iload_n 3, 1) := by decide +kernel
theorem dL_law_872 : decode cL_law 872 = .ok (.iconst 1, 1) := by decide +kernel
theorem dL_law_873 : decode cL_law 873 = .ok (.iadd, 1) := by decide +kernel
theorem dL_law_874 : decode cL_law 874 = .ok (.iaload, 1) := by decide +kernel
theorem dL_law_875 : decode cL_law 875 = .ok (.aload_n 0, 1) := by decide +kernel
theorem dL_law_876 : decode cL_law 876 = .ok (.iload_n 3, 1) := by decide +kernel
theorem dL_law_877 : decode cL_law 877 = .ok (.iconst 2, 1) := by decide +kernel
theorem dL_law_878 : decode cL_law 878 = .ok (.iadd, 1) := by decide +kernel
theorem dL_law_879 : decode cL_law 879 = .ok (.iaload, 1) := by decide +kernel
theorem dL_law_880 : decode cL_law 880 = .ok (.invokevirtual 112, 3) := by decide +kernel
theorem dL_law_883 : decode cL_law 883 = .ok (.lcmp, 1) := by decide +kernel
theorem dL_law_884 : decode cL_law 884 = .ok (.ifCond .eq 61, 3) := by decide +kernel
theorem dL_law_887 : decode cL_law 887 = .ok (.iconst 0, 1) := by decide +kernel
theorem dL_law_888 : decode cL_law 888 = .ok (.ireturn, 1) := by decide +kernel
theorem dL_law_889 : decode cL_law 889 = .ok (.aload_n 1, 1) := by decide +kernel
theorem dL_law_890 : decode cL_law 890 = .ok (.aload_n 0, 1) := by decide +kernel
theorem dL_law_891 : decode cL_law 891 = .ok (.iload_n 3, 1) := by decide +kernel
theorem dL_law_892 : decode cL_law 892 = .ok (.iconst 1, 1) := by decide +kernel
theorem dL_law_893 : decode cL_law 893 = .ok (.iadd, 1) := by decide +kernel
theorem dL_law_894 : decode cL_law 894 = .ok (.iaload, 1) := by decide +kernel
theorem dL_law_895 : decode cL_law 895 = .ok (.aload_n 0, 1) := by decide +kernel
theorem dL_law_896 : decode cL_law 896 = .ok (.iload_n 3, 1) := by decide +kernel
theorem dL_law_897 : decode cL_law 897 = .ok (.iconst 2, 1) := by decide +kernel
theorem dL_law_898 : decode cL_law 898 = .ok (.iadd, 1) := by decide +kernel
theorem dL_law_899 : decode cL_law 899 = .ok (.iaload, 1) := by decide +kernel
theorem dL_law_900 : decode cL_law 900 = .ok (.invokevirtual 113, 3) := by decide +kernel
theorem dL_law_903 : decode cL_law 903 = .ok (.aload_n 2, 1) := by decide +kernel
theorem dL_law_904 : decode cL_law 904 = .ok (.aload_n 0, 1) := by decide +kernel
theorem dL_law_905 : decode cL_law 905 = .ok (.iload_n 3, 1) := by decide +kernel
theorem dL_law_906 : decode cL_law 906 = .ok (.iconst 1, 1) := by decide +kernel
theorem dL_law_907 : decode cL_law 907 = .ok (.iadd, 1) := by decide +kernel
theorem dL_law_908 : decode cL_law 908 = .ok (.iaload, 1) := by decide +kernel
theorem dL_law_909 : decode cL_law 909 = .ok (.aload_n 0, 1) := by decide +kernel
theorem dL_law_910 : decode cL_law 910 = .ok (.iload_n 3, 1) := by decide +kernel
theorem dL_law_911 : decode cL_law 911 = .ok (.iconst 2, 1) := by decide +kernel
theorem dL_law_912 : decode cL_law 912 = .ok (.iadd, 1) := by decide +kernel
theorem dL_law_913 : decode cL_law 913 = .ok (.iaload, 1) := by decide +kernel
theorem dL_law_914 : decode cL_law 914 = .ok (.invokevirtual 116, 3) := by decide +kernel
theorem dL_law_917 : decode cL_law 917 = .ok (.if_icmp .eq 28, 3) := by decide +kernel
theorem dL_law_920 : decode cL_law 920 = .ok (.iconst 0, 1) := by decide +kernel
theorem dL_law_921 : decode cL_law 921 = .ok (.ireturn, 1) := by decide +kernel
theorem dL_law_922 : decode cL_law 922 = .ok (.aload_n 1, 1) := by decide +kernel
theorem dL_law_923 : decode cL_law 923 = .ok (.aload_n 0, 1) := by decide +kernel
theorem dL_law_924 : decode cL_law 924 = .ok (.iload_n 3, 1) := by decide +kernel
theorem dL_law_925 : decode cL_law 925 = .ok (.iconst 1, 1) := by decide +kernel
theorem dL_law_926 : decode cL_law 926 = .ok (.iadd, 1) := by decide +kernel
theorem dL_law_927 : decode cL_law 927 = .ok (.iaload, 1) := by decide +kernel
theorem dL_law_928 : decode cL_law 928 = .ok (.invokevirtual 117, 3) := by decide +kernel
theorem dL_law_931 : decode cL_law 931 = .ok (.aload_n 2, 1) := by decide +kernel
theorem dL_law_932 : decode cL_law 932 = .ok (.aload_n 0, 1) := by decide +kernel
theorem dL_law_933 : decode cL_law 933 = .ok (.iload_n 3, 1) := by decide +kernel
theorem dL_law_934 : decode cL_law 934 = .ok (.iconst 1, 1) := by decide +kernel
theorem dL_law_935 : decode cL_law 935 = .ok (.iadd, 1) := by decide +kernel
theorem dL_law_936 : decode cL_law 936 = .ok (.iaload, 1) := by decide +kernel
theorem dL_law_937 : decode cL_law 937 = .ok (.invokevirtual 120, 3) := by decide +kernel
theorem dL_law_940 : decode cL_law 940 = .ok (.if_icmp .eq 5, 3) := by decide +kernel
theorem dL_law_943 : decode cL_law 943 = .ok (.iconst 0, 1) := by decide +kernel
theorem dL_law_944 : decode cL_law 944 = .ok (.ireturn, 1) := by decide +kernel
theorem dL_law_945 : decode cL_law 945 = .ok (.iinc 3 8, 3) := by decide +kernel
theorem dL_law_948 : decode cL_law 948 = .ok (.goto (-910), 3) := by decide +kernel
theorem dL_law_951 : decode cL_law 951 = .ok (.iconst 1, 1) := by decide +kernel
theorem dL_law_952 : decode cL_law 952 = .ok (.ireturn, 1) := by decide +kernel
end
section
/-! THE WORLD AS FUNCTIONS: every cell made since the law began, by its address: its kind (0 none; class number + 1; 100 + array kind), its length, its ints, longs, references by slot; the next address. -/
abbrev Wd : Type := Nat × (Nat → Nat) × (Nat → Nat) × (Nat → Nat → Int32) × (Nat → Nat → Int64) × (Nat → Nat → Option Nat)
def wn (w : Wd) : Nat := w.1
def wK (w : Wd) : Nat → Nat := w.2.1
def wN (w : Wd) : Nat → Nat := w.2.2.1
def wI (w : Wd) : Nat → Nat → Int32 := w.2.2.2.1
def wL (w : Wd) : Nat → Nat → Int64 := w.2.2.2.2.1
def wR (w : Wd) : Nat → Nat → Option Nat := w.2.2.2.2.2
def up2 {α : Type} (f : Nat → Nat → α) (a k : Nat) (v : α) : Nat → Nat → α := va_up f a (va_up (f a) k v)
def sI (w : Wd) (a k : Nat) (v : Int32) : Wd := (wn w, wK w, wN w, up2 (wI w) a k v, wL w, wR w)
def sL (w : Wd) (a k : Nat) (v : Int64) : Wd := (wn w, wK w, wN w, wI w, up2 (wL w) a k v, wR w)
def sR (w : Wd) (a k : Nat) (v : Option Nat) : Wd := (wn w, wK w, wN w, wI w, wL w, up2 (wR w) a k v)
/-- a whole row of ints, of longs anew -/
def rI (w : Wd) (a : Nat) (f : Nat → Int32) : Wd := (wn w, wK w, wN w, va_up (wI w) a f, wL w, wR w)
def rL (w : Wd) (a : Nat) (f : Nat → Int64) : Wd := (wn w, wK w, wN w, wI w, va_up (wL w) a f, wR w)
/-- a new cell of kind kd, of length n -/
def newC (w : Wd) (kd n : Nat) : Wd := (wn w + 1, va_up (wK w) (wn w) kd, va_up (wN w) (wn w) n, va_up (wI w) (wn w) (fun _ => 0), va_up (wL w) (wn w) (fun _ => 0), va_up (wR w) (wn w) (fun _ => none))
def fT : Nat → List Nat := fun c => match c with
  | 0 => [0, 0, 0, 0, 2, 2, 2, 2, 2, 2, 2]
  | 1 => [0, 0, 0, 0, 2, 2, 2, 2, 2, 2, 2]
  | 2 => [0, 0, 0, 0, 0, 0, 0, 0, 0, 0, 0, 1, 1, 1, 2]
  | 3 => [2, 0]
  | 4 => [0, 2, 2, 2, 3, 3]
  | 5 => [2, 2, 2, 0, 0, 0, 0, 0, 0]
  | 6 => [0, 0, 0, 0, 0, 0, 0, 2, 2, 2, 2, 2, 2, 2, 2, 2, 2, 2, 2, 2, 2, 2, 2, 2, 2, 2, 2, 2, 2, 2, 2, 2, 2, 2, 2, 2, 2, 2, 2, 2, 2, 2, 2, 2, 2, 2, 2, 2, 0, 2, 0, 2, 2]
  | _ => []
def fV (w : Wd) (a k t : Nat) : Value := match t with
  | 1 => .long (wL w a k)
  | 2 => va_rf (wR w a k)
  | _ => .int (wI w a k)
def flds (w : Wd) (a : Nat) (ts : List Nat) : List Value := ts.mapIdx (fun k t => fV w a k t)
def aRow (w : Wd) (a t : Nat) : vp_A := match t with
  | 0 => (wN w a, .inl (wI w a))
  | 1 => (wN w a, .inr (.inl (wL w a)))
  | 2 => (wN w a, .inl (wI w a))
  | _ => (wN w a, .inr (.inr (.inr (.inr (wR w a)))))
def cellOf (aC : Nat → ClassId) (w : Wd) (a : Nat) : va_E := if wK w a < 100 then .inr (wK w a - 1, flds w a (fT (wK w a - 1))) else .inl (aC (wK w a - 100), aRow w a (wK w a - 100))
def wl (aC : Nat → ClassId) (b0 : Nat) (w : Wd) : va_W := (List.range (wn w - b0)).map (fun j => (b0 + j, cellOf aC w (b0 + j)))
theorem wl_get {aC : Nat → ClassId} {b0 a : Nat} {w : Wd} (h0 : b0 ≤ a) (h1 : a < wn w) : (wl aC b0 w)[a - b0]? = some (a, cellOf aC w a) := by
  unfold wl
  rw [List.getElem?_map, List.getElem?_range (by omega)]
  simp only [Option.map_some]
  rw [show b0 + (a - b0) = a by omega]
theorem wl_len {aC : Nat → ClassId} {b0 : Nat} {w : Wd} : (wl aC b0 w).length = wn w - b0 := by simp [wl]
theorem wl_any {aC : Nat → ClassId} {b0 k : Nat} {w : Wd} {q : Nat × va_E} (h : (wl aC b0 w)[k]? = some q) : q.1 = b0 + k ∧ k < wn w - b0 ∧ q.2 = cellOf aC w q.1 := by
  have hk : k < wn w - b0 := by
    have := (List.getElem?_eq_some_iff.mp h).1
    rwa [wl_len] at this
  unfold wl at h
  rw [List.getElem?_map, List.getElem?_range hk] at h
  simp only [Option.map_some, Option.some.injEq] at h
  subst h
  exact ⟨rfl, hk, rfl⟩
theorem wl_D {aC : Nat → ClassId} {b0 : Nat} {w : Wd} : va_D (fun q : Nat => b0 ≤ q) (wl aC b0 w) := by
  refine ⟨fun i j p q hi hj h => ?_, fun k q hk => ?_⟩
  · have h1 := (wl_any hi).1
    have h2 := (wl_any hj).1
    omega
  · have h1 := (wl_any hk).1
    show b0 ≤ q.1
    omega
theorem wl_set {aC : Nat → ClassId} {b0 a : Nat} {w w' : Wd} (h0 : b0 ≤ a) (hn : wn w' = wn w) (ho : ∀ b, b ≠ a → cellOf aC w' b = cellOf aC w b) : (wl aC b0 w).set (a - b0) (a, cellOf aC w' a) = wl aC b0 w' := by
  apply List.ext_getElem?
  intro i
  by_cases hi : i < wn w - b0
  · have e2 : (wl aC b0 w')[i]? = some (b0 + i, cellOf aC w' (b0 + i)) := by
      have := wl_get (aC := aC) (b0 := b0) (a := b0 + i) (w := w') (by omega) (by omega)
      rwa [show b0 + i - b0 = i by omega] at this
    have e1 : (wl aC b0 w)[i]? = some (b0 + i, cellOf aC w (b0 + i)) := by
      have := wl_get (aC := aC) (b0 := b0) (a := b0 + i) (w := w) (by omega) (by omega)
      rwa [show b0 + i - b0 = i by omega] at this
    by_cases hia : i = a - b0
    · subst hia
      rw [List.getElem?_set_self (by rw [wl_len]; exact hi), e2, show b0 + (a - b0) = a by omega]
    · rw [List.getElem?_set_ne (Ne.symm hia), e1, e2, ho (b0 + i) (by omega)]
  · rw [List.getElem?_eq_none (by rw [List.length_set, wl_len]; omega), List.getElem?_eq_none (by rw [wl_len]; omega)]
theorem wl_push {aC : Nat → ClassId} {b0 : Nat} {w w' : Wd} (h0 : b0 ≤ wn w) (hn : wn w' = wn w + 1) (ho : ∀ b, b < wn w → cellOf aC w' b = cellOf aC w b) : wl aC b0 w ++ [(wn w, cellOf aC w' (wn w))] = wl aC b0 w' := by
  unfold wl
  rw [hn, show wn w + 1 - b0 = (wn w - b0) + 1 by omega, List.range_succ, List.map_append]
  congr 1
  · apply List.map_congr_left
    intro j hj
    have hj := List.mem_range.mp hj
    rw [ho _ (by omega)]
  · simp only [List.map_cons, List.map_nil]
    rw [show b0 + (wn w - b0) = wn w by omega]
/-- the heap holds the world -/
def Mm (D : va_G) (aC : Nat → ClassId) (b0 : Nat) (w : Wd) (H : Heap) : Prop := H.size = wn w ∧ b0 ≤ wn w ∧ (∀ a, wK w a ≠ 0 → b0 ≤ a ∧ a < wn w) ∧ va_P D vwCl (wl aC b0 w) H
/-- the array classes -/
def tyL (aC : Nat → ClassId) : List (ClassId × FieldType) := [(aC 0, .int), (aC 1, .long), (aC 2, .boolean), (aC 3, .object RX0), (aC 4, .object RX1), (aC 5, .object RX2), (aC 6, .object RX4)]
abbrev nst1 : Cond := .methodLinkNest RX4 46 yX0_init RX5
abbrev nst2 : Cond := .methodLinkNest RX0 90 yX5_placeOf RX5
abbrev nst3 : Cond := .methodLinkNest RX5 171 yX0_init RX5
def KX (D : va_G) (aC : Nat → ClassId) (U : State) : Prop := va_K D vwCl (tyL aC) U ∧ va_Nw nst1 U ∧ va_Nw nst2 U ∧ va_Nw nst3 U ∧ va_AO RX0 U ∧ va_AO RX1 U ∧ va_AO RX2 U ∧ va_AO RX4 U
theorem KX.warm {D : va_G} {aC : Nat → ClassId} {s U : State} (hW : s.WarmedH U.vm) (h : KX D aC s) : KX D aC U :=
  ⟨va_K.moved hW.alike h.1, va_Nw.warmM hW h.2.1, va_Nw.warmM hW h.2.2.1, va_Nw.warmM hW h.2.2.2.1, va_AO.moved hW.alike h.2.2.2.2.1, va_AO.moved hW.alike h.2.2.2.2.2.1, va_AO.moved hW.alike h.2.2.2.2.2.2.1, va_AO.moved hW.alike h.2.2.2.2.2.2.2⟩
theorem KX.calling {D : va_G} {aC : Nat → ClassId} {U : State} (g : JFrame) (mk : MethodId) (a : Array Value) (h : KX D aC U) : KX D aC (U.calling g mk a) :=
  ⟨va_K.moved (u := U) (U := U.calling g mk a) (Vm.Alike.refl U.vm) h.1, va_Nw.same rfl (u := U) rfl h.2.1, va_Nw.same rfl (u := U) rfl h.2.2.1, va_Nw.same rfl (u := U) rfl h.2.2.2.1, va_AO.moved (Vm.Alike.refl U.vm) h.2.2.2.2.1, va_AO.moved (Vm.Alike.refl U.vm) h.2.2.2.2.2.1, va_AO.moved (Vm.Alike.refl U.vm) h.2.2.2.2.2.2.1, va_AO.moved (Vm.Alike.refl U.vm) h.2.2.2.2.2.2.2⟩
/-- a contract at one start: with these arguments, from the world w: it returns ov, the world is w' -/
def Ct (l : Launch) (D : va_G) (aC : Nat → ClassId) (b0 : Nat) (y : MethodName) (ws : List Cond) (rm : Room) (av : List Value) (w : Wd) (ov : Option Value) (w' : Wd) : Prop :=
  Met l y ws rm (va_Pc av (fun U => Mm D aC b0 w U.heap ∧ KX D aC U)) (fun _ st oc t => (oc = .returned ov ∧ Mm D aC b0 w' t.heap) ∧ va_F (fun q : Nat => b0 ≤ q) st t) rm.cells rm.slots (fun q : Nat => b0 ≤ q)
abbrev Gw : List Cond := wsL_law
theorem Gw_good : Gw.all goodWord = true := by decide +kernel
theorem gIn {x : Cond} {y : MethodName} {b : ByteArray} {n : Nat} {r : Option FieldType} (h : Cond.code y b n r ∈ Gw) : GoodIn (x :: Gw) (Cond.code y b n r :: Gw) := fun w hw => by
  rcases List.mem_cons.mp hw with rfl | hw
  · exact ⟨List.mem_cons_of_mem _ h, good_of_word (List.all_eq_true.mp Gw_good _ h)⟩
  · exact ⟨List.mem_cons_of_mem _ hw, good_of_word (List.all_eq_true.mp Gw_good _ hw)⟩
theorem gInL {y : MethodName} {b : ByteArray} {n : Nat} {r : Option FieldType} (h : Cond.code y b n r ∈ Gw) : GoodIn Gw (Cond.code y b n r :: Gw) := fun w hw => by
  rcases List.mem_cons.mp hw with rfl | hw
  · exact ⟨h, good_of_word (List.all_eq_true.mp Gw_good _ h)⟩
  · exact ⟨hw, good_of_word (List.all_eq_true.mp Gw_good _ hw)⟩
end
section
/-! ROWS: an instruction over the world as functions -/
def vOk (t : Nat) (v : Value) : Prop := match t with
  | 0 => ∃ x, v = .int x
  | 1 => ∃ x, v = .long x
  | 2 => ∃ r, v = va_rf r
  | _ => v = .int 0 ∨ v = .int 1
/-- a field that the code of 'own' names by its entry ix: the field k of class ci, of type t -/
def FL (own : String) (ix ci k t : Nat) (fin : Bool) : Prop := ∃ (C : String) (T : u_T) (N : Nat) (ty : Nat → FieldType), vwCl[ci]? = some (C, T, N) ∧ (∀ w ∈ u_ws C T N, w ∈ Gw) ∧ (∀ k, k < N → parseFieldDescriptor (T k).2.2.1 = some (ty k)) ∧ (∀ a, a < N → ∀ b, b < N → a ≠ b → (T a).2.1 ≠ (T b).2.1) ∧ k < N ∧ (fT ci)[k]? = some t ∧ Cond.fieldLink own ix C (T k).2.1 (T k).2.2.1 ∈ Gw ∧ (T k).1 = C ∧ (∀ v, vOk t v → narrow (ty k) v = v ∧ fits (ty k) v = true) ∧ (T k).2.2.2 = fin ∧ (fin = true → C = own) ∧ ci < 99
theorem vo_i : ∀ v, vOk 0 v → narrow .int v = v ∧ fits .int v = true := by rintro v ⟨x, rfl⟩; exact ⟨rfl, rfl⟩
theorem vo_l : ∀ v, vOk 1 v → narrow .long v = v ∧ fits .long v = true := by rintro v ⟨x, rfl⟩; exact ⟨rfl, rfl⟩
theorem vo_o (C : String) : ∀ v, vOk 2 v → narrow (.object C) v = v ∧ fits (.object C) v = true := by rintro v ⟨r, rfl⟩; cases r <;> exact ⟨rfl, rfl⟩
theorem vo_a (t : FieldType) : ∀ v, vOk 2 v → narrow (.array t) v = v ∧ fits (.array t) v = true := by rintro v ⟨r, rfl⟩; cases r <;> exact ⟨rfl, rfl⟩
theorem vo_z : ∀ v, vOk 3 v → narrow .boolean v = v ∧ fits .boolean v = true := by rintro v (rfl | rfl) <;> decide +kernel
/-- what a method's walk stands on -/
def Cx (D : va_G) (aC : Nat → ClassId) (p : Program) (s : State) (m : MethodId) (args : Array Value) (meth : Method) (c : Code) (cc : ByteArray) (own : String) (nL : Nat) (nm : String) (ret : Option FieldType) : Prop :=
  p.tables.exec = Jvm.exec ∧ c.code = cc ∧ c.maxLocals = nL ∧ s.vm.findClass own = some m.cls ∧ meth.locks = false ∧ meth.name = nm ∧ meth.sig.returnType = ret ∧ (∀ w ∈ Gw, w.before args s = true) ∧ KX D aC s
def Qr (D : va_G) (aC : Nat → ClassId) (b0 : Nat) (ov : Option Value) (w' : Wd) : Array Value → State → Outcome → State → Prop := fun _ st oc t => (oc = .returned ov ∧ Mm D aC b0 w' t.heap) ∧ va_F (fun q : Nat => b0 ≤ q) st t
abbrev Fb (b0 : Nat) : Nat → Prop := fun q => b0 ≤ q
theorem Mm.obj {D : va_G} {aC : Nat → ClassId} {b0 : Nat} {w : Wd} {H : Heap} (M : Mm D aC b0 w H) {a ci : Nat} (ha : wK w a = ci + 1) (hc : ci < 99) : (wl aC b0 w)[a - b0]? = some (a, .inr (ci, flds w a (fT ci))) := by
  obtain ⟨h0, h1⟩ := M.2.2.1 a (by omega)
  rw [wl_get h0 h1]
  unfold cellOf
  rw [if_pos (by omega), ha, Nat.add_sub_cancel]
theorem Mm.arr {D : va_G} {aC : Nat → ClassId} {b0 : Nat} {w : Wd} {H : Heap} (M : Mm D aC b0 w H) {a t : Nat} (ha : wK w a = 100 + t) : (wl aC b0 w)[a - b0]? = some (a, .inl (aC t, aRow w a t)) := by
  obtain ⟨h0, h1⟩ := M.2.2.1 a (by omega)
  rw [wl_get h0 h1]
  unfold cellOf
  rw [if_neg (by omega), ha, Nat.add_sub_cancel_left]
theorem Mm.upd {D : va_G} {aC : Nat → ClassId} {b0 : Nat} {w w' : Wd} {H H1 : Heap} {a : Nat} (M : Mm D aC b0 w H) (ha : wK w a ≠ 0) (hz : H1.size = H.size) (hn : wn w' = wn w) (hk : wK w' = wK w) (ho : ∀ b, b ≠ a → cellOf aC w' b = cellOf aC w b) (hP : va_P D vwCl ((wl aC b0 w).set (a - b0) (a, cellOf aC w' a)) H1) : Mm D aC b0 w' H1 := by
  obtain ⟨h0, h1⟩ := M.2.2.1 a ha
  rw [wl_set h0 hn ho] at hP
  exact ⟨by rw [hz, hn]; exact M.1, by rw [hn]; exact M.2.1, by rw [hk, hn]; exact M.2.2.1, hP⟩
theorem flds_get {w : Wd} {a k t : Nat} {ts : List Nat} (h : ts[k]? = some t) : (flds w a ts)[k]? = some (fV w a k t) := by
  unfold flds
  rw [List.getElem?_mapIdx, h]
  rfl
theorem flds_set {w w' : Wd} {a k t : Nat} {ts : List Nat} {v : Value} (h : ts[k]? = some t) (h1 : fV w' a k t = v) (h2 : ∀ j u, j ≠ k → fV w' a j u = fV w a j u) : flds w' a ts = (flds w a ts).set k v := by
  apply List.ext_getElem?
  intro i
  have hl : k < ts.length := (List.getElem?_eq_some_iff.mp h).1
  by_cases hi : i = k
  · subst hi
    rw [List.getElem?_set_self (by unfold flds; rw [List.length_mapIdx]; exact hl), flds_get h, h1]
  · rw [List.getElem?_set_ne (Ne.symm hi)]
    unfold flds
    rw [List.getElem?_mapIdx, List.getElem?_mapIdx]
    cases ts[i]? with
    | none => rfl
    | some u => simp only [Option.map_some]; rw [h2 i u hi]
theorem flds_oth {w w' : Wd} {b : Nat} (h : ∀ j u, fV w' b j u = fV w b j u) (ts : List Nat) : flds w' b ts = flds w b ts := by
  unfold flds
  congr 1
  funext k t
  exact h k t
theorem up2_s {α : Type} (f : Nat → Nat → α) (a k : Nat) (v : α) : up2 f a k v a = va_up (f a) k v := by simp [up2, va_up]
theorem up2_n {α : Type} (f : Nat → Nat → α) {a b : Nat} (k : Nat) (v : α) (h : b ≠ a) : up2 f a k v b = f b := by simp [up2, va_up, h]
theorem cell_oth {aC : Nat → ClassId} {w w' : Wd} {b : Nat} (hk : wK w' b = wK w b) (hN : wN w' b = wN w b) (hI : wI w' b = wI w b) (hL : wL w' b = wL w b) (hR : wR w' b = wR w b) : cellOf aC w' b = cellOf aC w b := by
  have hf : ∀ j u, fV w' b j u = fV w b j u := by
    intro j u
    unfold fV
    rw [hI, hL, hR]
  have hr : ∀ t, aRow w' b t = aRow w b t := by
    intro t
    unfold aRow
    rw [hN, hI, hL, hR]
  unfold cellOf
  rw [hk, flds_oth hf, hr]
theorem sI_oth {aC : Nat → ClassId} {w : Wd} {a k : Nat} {x : Int32} : ∀ b, b ≠ a → cellOf aC (sI w a k x) b = cellOf aC w b := fun b h => cell_oth rfl rfl (up2_n _ _ _ h) rfl rfl
theorem sL_oth {aC : Nat → ClassId} {w : Wd} {a k : Nat} {x : Int64} : ∀ b, b ≠ a → cellOf aC (sL w a k x) b = cellOf aC w b := fun b h => cell_oth rfl rfl rfl (up2_n _ _ _ h) rfl
theorem sR_oth {aC : Nat → ClassId} {w : Wd} {a k : Nat} {x : Option Nat} : ∀ b, b ≠ a → cellOf aC (sR w a k x) b = cellOf aC w b := fun b h => cell_oth rfl rfl rfl rfl (up2_n _ _ _ h)
theorem rI_oth {aC : Nat → ClassId} {w : Wd} {a : Nat} {x : Nat → Int32} : ∀ b, b ≠ a → cellOf aC (rI w a x) b = cellOf aC w b := fun b h => cell_oth rfl rfl (va_up_ne _ _ h) rfl rfl
theorem rL_oth {aC : Nat → ClassId} {w : Wd} {a : Nat} {x : Nat → Int64} : ∀ b, b ≠ a → cellOf aC (rL w a x) b = cellOf aC w b := fun b h => cell_oth rfl rfl rfl (va_up_ne _ _ h) rfl
theorem fV_sI {w : Wd} {a k t : Nat} {x : Int32} (ht : t = 0 ∨ t = 3) : fV (sI w a k x) a k t = .int x := by
  rcases ht with rfl | rfl <;> (show Value.int (up2 (wI w) a k x a k) = _; rw [up2_s]; simp [va_up])
theorem fV_sI' {w : Wd} {a k : Nat} {x : Int32} : ∀ j u, j ≠ k → fV (sI w a k x) a j u = fV w a j u := by
  intro j u h
  unfold fV
  rw [show wI (sI w a k x) a j = wI w a j by show up2 (wI w) a k x a j = _; rw [up2_s]; simp [va_up, h]]
  rfl
theorem fV_sL {w : Wd} {a k : Nat} {x : Int64} : fV (sL w a k x) a k 1 = .long x := by
  show Value.long (up2 (wL w) a k x a k) = _; rw [up2_s]; simp [va_up]
theorem fV_sL' {w : Wd} {a k : Nat} {x : Int64} : ∀ j u, j ≠ k → fV (sL w a k x) a j u = fV w a j u := by
  intro j u h
  unfold fV
  rw [show wL (sL w a k x) a j = wL w a j by show up2 (wL w) a k x a j = _; rw [up2_s]; simp [va_up, h]]
  rfl
theorem fV_sR {w : Wd} {a k : Nat} {x : Option Nat} : fV (sR w a k x) a k 2 = va_rf x := by
  show va_rf (up2 (wR w) a k x a k) = _; rw [up2_s]; simp [va_up]
theorem fV_sR' {w : Wd} {a k : Nat} {x : Option Nat} : ∀ j u, j ≠ k → fV (sR w a k x) a j u = fV w a j u := by
  intro j u h
  unfold fV
  rw [show wR (sR w a k x) a j = wR w a j by show up2 (wR w) a k x a j = _; rw [up2_s]; simp [va_up, h]]
  rfl
theorem cell_obj {aC : Nat → ClassId} {w : Wd} {a ci : Nat} (ha : wK w a = ci + 1) (hc : ci < 99) : cellOf aC w a = .inr (ci, flds w a (fT ci)) := by
  unfold cellOf
  rw [if_pos (by omega), ha, Nat.add_sub_cancel]
theorem cell_arr {aC : Nat → ClassId} {w : Wd} {a t : Nat} (ha : wK w a = 100 + t) : cellOf aC w a = .inl (aC t, aRow w a t) := by
  unfold cellOf
  rw [if_neg (by omega), ha, Nat.add_sub_cancel_left]
section QR
variable {l : Launch} {D : va_G} {aC : Nat → ClassId} {b0 : Nat} {p : Program} {e : Env} {R : Room} {s : State} {m : MethodId} {args : Array Value} {below : List Frame} {meth : Method} {c : Code} {cc : ByteArray} {own : String} {nL : Nat} {nm : String} {ret : Option FieldType} {w : Wd} {H : Heap} {locs : List Loc} {cells slots : Nat} {Q : State → Prop} {pc : Nat} {ls : Array Slot} {rest : List Value}
theorem q_get (X : Cx D aC p s m args meth c cc own nL nm ret) (M : Mm D aC b0 w H) {a ix ci k t : Nat} {fin : Bool} (fl : FL own ix ci k t fin) (ha : wK w a = ci + 1) {v : Value} (hv : fV w a k t = v) (hdg : decode cc pc = .ok (.getfield ix, 3))
    (kk : W p l e R s m args below meth c H locs cells slots Q (F0 m (pc + 3) ls (v :: rest))) : W p l e R s m args below meth c H locs cells slots Q (F0 m pc ls (va_rf (some a) :: rest)) := by
  obtain ⟨hx, hb, -, hown, -, -, -, hts, hK⟩ := X
  obtain ⟨C, T, N, ty, hc, hin, -, -, hk, hft, hl, hT, -, -, -, h99⟩ := fl
  subst hv
  exact va_get hx hb hts hin hown hK.1 M.2.2.2 (a - b0) (M.obj ha h99) hc k hk (hts _ hl) (fun x h => by rw [hT] at h; exact h) (flds_get hft) hdg kk
theorem q_putX (X : Cx D aC p s m args meth c cc own nL nm ret) (M : Mm D aC b0 w H) (hS : va_S (Fb b0) s.heap H locs) {a ix ci k t : Nat} {fin : Bool} (fl : FL own ix ci k t fin) (hfin : fin = false ∨ nm = "<init>") (ha : wK w a = ci + 1) {v : Value} (hv : vOk t v) {w' : Wd} (hn : wn w' = wn w) (hk' : wK w' = wK w) (ho : ∀ b, b ≠ a → cellOf aC w' b = cellOf aC w b) (hf : ∀ ts : List Nat, ts[k]? = some t → flds w' a ts = (flds w a ts).set k v) (hdg : decode cc pc = .ok (.putfield ix, 3))
    (kk : ∀ (H1 : Heap) (locs1 : List Loc), Mm D aC b0 w' H1 → va_S (Fb b0) s.heap H1 locs1 → W p l e R s m args below meth c H1 locs1 cells slots Q (F0 m (pc + 3) ls rest)) : W p l e R s m args below meth c H locs cells slots Q (F0 m pc ls (v :: va_rf (some a) :: rest)) := by
  obtain ⟨hx, hb, -, hown, -, hnm, -, hts, hK⟩ := X
  obtain ⟨C, T, N, ty, hc, hin, hty, hne, hk, hft, hl, hT, hvo, hfi, hfo, h99⟩ := fl
  have hlen : k < (flds w a (fT ci)).length := by
    have := (List.getElem?_eq_some_iff.mp (flds_get (w := w) (a := a) hft)).1
    exact this
  have e1 : (a, (Sum.inr (ci, (flds w a (fT ci)).set k v) : va_E)) = (a, cellOf aC w' a) := by
    rw [cell_obj (by rw [hk']; exact ha) h99, hf _ hft]
  have done : ∀ (H1 : Heap) (locs1 : List Loc), H1.size = H.size → va_P D vwCl ((wl aC b0 w).set (a - b0) (a, .inr (ci, (flds w a (fT ci)).set k v))) H1 → va_S (Fb b0) s.heap H1 locs1 → W p l e R s m args below meth c H1 locs1 cells slots Q (F0 m (pc + 3) ls rest) := by
    intro H1 locs1 hz hP hS1
    rw [e1] at hP
    exact kk H1 locs1 (M.upd (by omega) hz hn hk' ho hP) hS1
  have hap := va_apart (own := own) hts hin ty hty hne hK.1 hc
  obtain ⟨r, h1, cell, q1, q2, q3, q4⟩ := M.2.2.2 (a - b0) _ (M.obj ha h99)
  have hr : r = (C, T, N) := Option.some.inj (h1.symm.trans hc)
  subst hr
  obtain ⟨hSl, hfc, kC, hkC, hkind⟩ := hK.1.1 ci _ hc
  obtain ⟨cf, kf, fi, f, hi, hsl⟩ := hSl k hk
  have hlay := hts _ (hin _ (u_in_lay hk))
  unfold u_lay at hlay
  have hst := (u_facts hfc hkC (u_lays hts hin hk) hi).1
  have hi2 : s.fieldFound? C (T k).2.1 (T k).2.2.1 = some (cf, kf, fi, f) := by rw [← hT]; exact hi
  have fin' : ∀ (H' : Heap), H'[a]? = some (cell.setSlot f.slot v) → H'.size = H.size → (∀ q, q ≠ a → H'[q]? = H[q]?) → W p l e R s m args below meth c H' (locs ++ [⟨a, f.slot⟩]) cells slots Q (F0 m (pc + 3) ls rest) := by
    intro H' g1 g2 g3
    rw [hsl] at g1 ⊢
    exact done H' _ g2 (M.2.2.2.set wl_D (M.obj ha h99) ⟨_, hc, t_OB.to (V := updV (vp_V (flds w a (fT ci))) k v) ⟨_, g1, q2, q3, t_set q4 hap hk v⟩ (fun j _ => vp_updV_set hlen v j)⟩ g3) (hS.put g2 g3 ((M.2.2.1 a (by omega)).1))
  by_cases hb2 : fin = true
  · rw [if_pos (by rw [hfi]; exact hb2)] at hlay
    have hCo := hfo hb2
    subst hCo
    have hinit : meth.name = "<init>" := by
      rcases hfin with h | h
      · rw [hb2] at h; cases h
      · rw [hnm]; exact h
    have hcf : m.cls = cf := by
      obtain ⟨_, _, c', _, _, _, -, -, hf', -, -, -, hown2, -⟩ := Cond.laysFinal_spec hlay
      have e1 : c' = cf := by have := hi.symm.trans hf'; simp at this; exact this.1.symm
      rw [hT] at hown2
      rw [← e1]; exact Option.some.inj (hown.symm.trans hown2)
    have h6 := u_fits hfc hkC hkind (Or.inr hlay) hi (hty k hk) (hvo v hv).1 (hvo v hv).2
    exact W.putFinK hx hb hown (hts _ hl) hi2 hst hcf hinit (by rw [q2]; exact h6) q1 q3 (by rw [hsl]; exact k2_hasslot (q4 k hk)) rfl rfl hdg fin'
  · rw [if_neg (by rw [hfi]; exact hb2)] at hlay
    have h6 := u_store hfc hkC hkind hlay hi (hty k hk) (hvo v hv).1 (hvo v hv).2
    exact W.putK hx hb (f := f) ⟨hown, hts _ hl, ⟨_, _, _, hi2⟩, hst⟩ (by rw [q2]; exact h6) q1 q3 (by rw [hsl]; exact k2_hasslot (q4 k hk)) rfl rfl hdg fin'
theorem q_putI (X : Cx D aC p s m args meth c cc own nL nm ret) (M : Mm D aC b0 w H) (hS : va_S (Fb b0) s.heap H locs) {a ix ci k : Nat} {fin : Bool} (fl : FL own ix ci k 0 fin) (hfin : fin = false ∨ nm = "<init>") (ha : wK w a = ci + 1) {x : Int32} (hdg : decode cc pc = .ok (.putfield ix, 3))
    (kk : ∀ (H1 : Heap) (locs1 : List Loc), Mm D aC b0 (sI w a k x) H1 → va_S (Fb b0) s.heap H1 locs1 → W p l e R s m args below meth c H1 locs1 cells slots Q (F0 m (pc + 3) ls rest)) : W p l e R s m args below meth c H locs cells slots Q (F0 m pc ls (.int x :: va_rf (some a) :: rest)) :=
  q_putX (w' := sI w a k x) X M hS fl hfin ha ⟨x, rfl⟩ rfl rfl sI_oth (fun _ h => flds_set h (fV_sI (Or.inl rfl)) fV_sI') hdg kk
theorem q_putZ (X : Cx D aC p s m args meth c cc own nL nm ret) (M : Mm D aC b0 w H) (hS : va_S (Fb b0) s.heap H locs) {a ix ci k : Nat} {fin : Bool} (fl : FL own ix ci k 3 fin) (hfin : fin = false ∨ nm = "<init>") (ha : wK w a = ci + 1) {x : Int32} (hx : x = 0 ∨ x = 1) (hdg : decode cc pc = .ok (.putfield ix, 3))
    (kk : ∀ (H1 : Heap) (locs1 : List Loc), Mm D aC b0 (sI w a k x) H1 → va_S (Fb b0) s.heap H1 locs1 → W p l e R s m args below meth c H1 locs1 cells slots Q (F0 m (pc + 3) ls rest)) : W p l e R s m args below meth c H locs cells slots Q (F0 m pc ls (.int x :: va_rf (some a) :: rest)) :=
  q_putX (w' := sI w a k x) X M hS fl hfin ha (by rcases hx with rfl | rfl; exact Or.inl rfl; exact Or.inr rfl) rfl rfl sI_oth (fun _ h => flds_set h (fV_sI (Or.inr rfl)) fV_sI') hdg kk
theorem q_putL (X : Cx D aC p s m args meth c cc own nL nm ret) (M : Mm D aC b0 w H) (hS : va_S (Fb b0) s.heap H locs) {a ix ci k : Nat} {fin : Bool} (fl : FL own ix ci k 1 fin) (hfin : fin = false ∨ nm = "<init>") (ha : wK w a = ci + 1) {x : Int64} (hdg : decode cc pc = .ok (.putfield ix, 3))
    (kk : ∀ (H1 : Heap) (locs1 : List Loc), Mm D aC b0 (sL w a k x) H1 → va_S (Fb b0) s.heap H1 locs1 → W p l e R s m args below meth c H1 locs1 cells slots Q (F0 m (pc + 3) ls rest)) : W p l e R s m args below meth c H locs cells slots Q (F0 m pc ls (.long x :: va_rf (some a) :: rest)) :=
  q_putX (w' := sL w a k x) X M hS fl hfin ha ⟨x, rfl⟩ rfl rfl sL_oth (fun _ h => flds_set h fV_sL fV_sL') hdg kk
theorem q_putR (X : Cx D aC p s m args meth c cc own nL nm ret) (M : Mm D aC b0 w H) (hS : va_S (Fb b0) s.heap H locs) {a ix ci k : Nat} {fin : Bool} (fl : FL own ix ci k 2 fin) (hfin : fin = false ∨ nm = "<init>") (ha : wK w a = ci + 1) {x : Option Nat} (hdg : decode cc pc = .ok (.putfield ix, 3))
    (kk : ∀ (H1 : Heap) (locs1 : List Loc), Mm D aC b0 (sR w a k x) H1 → va_S (Fb b0) s.heap H1 locs1 → W p l e R s m args below meth c H1 locs1 cells slots Q (F0 m (pc + 3) ls rest)) : W p l e R s m args below meth c H locs cells slots Q (F0 m pc ls (va_rf x :: va_rf (some a) :: rest)) :=
  q_putX (w' := sR w a k x) X M hS fl hfin ha ⟨x, rfl⟩ rfl rfl sR_oth (fun _ h => flds_set h fV_sR fV_sR') hdg kk
end QR
end
section
/-! ROWS: arrays, new cells, calls, ends -/
section QA
variable {l : Launch} {D : va_G} {aC : Nat → ClassId} {b0 : Nat} {p : Program} {e : Env} {R : Room} {s : State} {m : MethodId} {args : Array Value} {below : List Frame} {meth : Method} {c : Code} {cc : ByteArray} {own : String} {nL : Nat} {nm : String} {ret : Option FieldType} {w : Wd} {H : Heap} {locs : List Loc} {cells slots : Nat} {Q : State → Prop} {pc : Nat} {ls : Array Slot} {rest : List Value}
theorem q_iald (X : Cx D aC p s m args meth c cc own nL nm ret) (M : Mm D aC b0 w H) {a : Nat} (ha : wK w a = 100) {i : Int32} (hin : vp_in i (wN w a)) (hdg : decode cc pc = .ok (.iaload, 1))
    (kk : W p l e R s m args below meth c H locs cells slots Q (F0 m (pc + 1) ls (.int (wI w a i.toNatClampNeg) :: rest))) : W p l e R s m args below meth c H locs cells slots Q (F0 m pc ls (.int i :: va_rf (some a) :: rest)) :=
  va_iald X.1 X.2.1 X.2.2.2.2.2.2.2.2.1 M.2.2.2 (a - b0) 0 (M.arr (t := 0) ha) rfl hin hdg kk
theorem q_lald (X : Cx D aC p s m args meth c cc own nL nm ret) (M : Mm D aC b0 w H) {a : Nat} (ha : wK w a = 101) {i : Int32} (hin : vp_in i (wN w a)) (hdg : decode cc pc = .ok (.laload, 1))
    (kk : W p l e R s m args below meth c H locs cells slots Q (F0 m (pc + 1) ls (.long (wL w a i.toNatClampNeg) :: rest))) : W p l e R s m args below meth c H locs cells slots Q (F0 m pc ls (.int i :: va_rf (some a) :: rest)) :=
  va_lald X.1 X.2.1 X.2.2.2.2.2.2.2.2.1 M.2.2.2 (a - b0) 1 (M.arr (t := 1) ha) rfl hin hdg kk
theorem q_zald (X : Cx D aC p s m args meth c cc own nL nm ret) (M : Mm D aC b0 w H) {a : Nat} (ha : wK w a = 102) {i : Int32} (hin : vp_in i (wN w a)) (hdg : decode cc pc = .ok (.baload, 1))
    (kk : W p l e R s m args below meth c H locs cells slots Q (F0 m (pc + 1) ls (.int (wI w a i.toNatClampNeg) :: rest))) : W p l e R s m args below meth c H locs cells slots Q (F0 m pc ls (.int i :: va_rf (some a) :: rest)) :=
  va_zald X.1 X.2.1 X.2.2.2.2.2.2.2.2.1 M.2.2.2 (a - b0) 2 (M.arr (t := 2) ha) rfl hin hdg kk
/-- an array of references, its kind t, its element's class -/
def AR (t : Nat) (C : String) (ci : Nat) : Prop := (t = 3 ∧ C = RX0 ∧ ci = 0) ∨ (t = 4 ∧ C = RX1 ∧ ci = 1) ∨ (t = 5 ∧ C = RX2 ∧ ci = 2) ∨ (t = 6 ∧ C = RX4 ∧ ci = 4)
theorem AR.ty {t : Nat} {C : String} {ci : Nat} (h : AR t C ci) : (tyL aC)[t]? = some (aC t, .object C) := by
  rcases h with ⟨rfl, rfl, rfl⟩ | ⟨rfl, rfl, rfl⟩ | ⟨rfl, rfl, rfl⟩ | ⟨rfl, rfl, rfl⟩ <;> rfl
theorem AR.row {t : Nat} {C : String} {ci : Nat} (h : AR t C ci) (w : Wd) (a : Nat) : aRow w a t = (wN w a, .inr (.inr (.inr (.inr (wR w a))))) := by
  rcases h with ⟨rfl, rfl, rfl⟩ | ⟨rfl, rfl, rfl⟩ | ⟨rfl, rfl, rfl⟩ | ⟨rfl, rfl, rfl⟩ <;> rfl
theorem AR.cl {t : Nat} {C : String} {ci : Nat} (h : AR t C ci) : ∃ r : vw_C, vwCl[ci]? = some r ∧ r.1 = C ∧ ci < 99 := by
  rcases h with ⟨rfl, rfl, rfl⟩ | ⟨rfl, rfl, rfl⟩ | ⟨rfl, rfl, rfl⟩ | ⟨rfl, rfl, rfl⟩ <;> exact ⟨_, rfl, rfl, by decide⟩
theorem q_aald (X : Cx D aC p s m args meth c cc own nL nm ret) (M : Mm D aC b0 w H) {a t ci : Nat} {C : String} (hA : AR t C ci) (ha : wK w a = 100 + t) {i : Int32} (hin : vp_in i (wN w a)) (hdg : decode cc pc = .ok (.aaload, 1))
    (kk : W p l e R s m args below meth c H locs cells slots Q (F0 m (pc + 1) ls (va_rf (wR w a i.toNatClampNeg) :: rest))) : W p l e R s m args below meth c H locs cells slots Q (F0 m pc ls (.int i :: va_rf (some a) :: rest)) :=
  va_aldq X.1 X.2.1 X.2.2.2.2.2.2.2.2.1 M.2.2.2 (a - b0) t (by rw [M.arr ha, hA.row]) hA.ty hin hdg kk
theorem q_alen (X : Cx D aC p s m args meth c cc own nL nm ret) (M : Mm D aC b0 w H) {a t : Nat} (ht : t < 7) (ha : wK w a = 100 + t) (hdg : decode cc pc = .ok (.arraylength, 1))
    (kk : W p l e R s m args below meth c H locs cells slots Q (F0 m (pc + 1) ls (.int (nI (wN w a)) :: rest))) : W p l e R s m args below meth c H locs cells slots Q (F0 m pc ls (va_rf (some a) :: rest)) := by
  have hr : Int32.ofNat (aRow w a t).1 = nI (wN w a) := by
    unfold aRow
    split <;> rfl
  obtain ⟨q, hq⟩ : ∃ q, (tyL aC)[t]? = some (aC t, q) := by
    match t, ht with
    | 0, _ => exact ⟨_, rfl⟩
    | 1, _ => exact ⟨_, rfl⟩
    | 2, _ => exact ⟨_, rfl⟩
    | 3, _ => exact ⟨_, rfl⟩
    | 4, _ => exact ⟨_, rfl⟩
    | 5, _ => exact ⟨_, rfl⟩
    | 6, _ => exact ⟨_, rfl⟩
  exact va_alen X.1 X.2.1 X.2.2.2.2.2.2.2.2.1 M.2.2.2 (a - b0) t (M.arr ha) hq hr hdg kk
theorem upd_up (f : Nat → Int32) (k : Nat) (x : Int32) : upd f k x = va_up f k x := by
  funext j
  by_cases h : j = k
  · subst h; rw [pk_us]; simp [va_up]
  · rw [pk_un h]; simp [va_up, h]
theorem updL_up (f : Nat → Int64) (k : Nat) (x : Int64) : vp_updL f k x = va_up f k x := by
  funext j
  by_cases h : j = k
  · subst h; rw [pk_uLs]; simp [va_up]
  · rw [pk_uLn h]; simp [va_up, h]
theorem sI_row (w : Wd) (a k : Nat) (x : Int32) : wI (sI w a k x) a = va_up (wI w a) k x := up2_s _ _ _ _
theorem sL_row (w : Wd) (a k : Nat) (x : Int64) : wL (sL w a k x) a = va_up (wL w a) k x := up2_s _ _ _ _
theorem sR_row (w : Wd) (a k : Nat) (x : Option Nat) : wR (sR w a k x) a = va_up (wR w a) k x := up2_s _ _ _ _
/-- behind a store in an array of the world -/
theorem Mm.ast {H1 : Heap} {w' : Wd} {a t : Nat} (M : Mm D aC b0 w H) (ha : wK w a = 100 + t) (z : H1.size = H.size) (oq : ∀ q, q ≠ a → H1[q]? = H[q]?) (hn : wn w' = wn w) (hk : wK w' = wK w) (ho : ∀ b, b ≠ a → cellOf aC w' b = cellOf aC w b) (e : H1[a]? = some (vp_cell (aC t) (aRow w' a t))) : Mm D aC b0 w' H1 := by
  refine M.upd (a := a) (by omega) z hn hk ho (M.2.2.2.set wl_D (M.arr ha) ?_ oq)
  rw [cell_arr (t := t) (by rw [hk]; exact ha)]
  exact e
theorem q_iast (X : Cx D aC p s m args meth c cc own nL nm ret) (M : Mm D aC b0 w H) (hS : va_S (Fb b0) s.heap H locs) {a : Nat} (ha : wK w a = 100) {i x : Int32} (hin : vp_in i (wN w a)) (hdg : decode cc pc = .ok (.iastore, 1))
    (kk : ∀ (H1 : Heap) (locs1 : List Loc), Mm D aC b0 (sI w a i.toNatClampNeg x) H1 → va_S (Fb b0) s.heap H1 locs1 → W p l e R s m args below meth c H1 locs1 cells slots Q (F0 m (pc + 1) ls rest)) : W p l e R s m args below meth c H locs cells slots Q (F0 m pc ls (.int x :: .int i :: va_rf (some a) :: rest)) := by
  refine W.iast X.1 X.2.1 (M.2.2.2 _ _ (M.arr (t := 0) ha)) ((X.2.2.2.2.2.2.2.2.1.2 0 _ rfl).1 (wN w a) (fun j => .int (wI w a j))) (fun q => by cases q) (by show ¬ (i < 0 ∨ (arrV _ _ _).slots.size ≤ _); rw [arrV_size]; exact hin) rfl rfl hdg fun H1 e1 z oq => ?_
  refine kk H1 _ (M.ast (t := 0) ha z oq rfl rfl sI_oth ?_) (hS.put z oq (M.2.2.1 a (by omega)).1)
  rw [e1]
  show some ((arrV (aC 0) (wN w a) (fun j => .int (wI w a j))).setSlot _ _) = some (arrV (aC 0) (wN w a) (fun j => .int (wI (sI w a i.toNatClampNeg x) a j)))
  rw [sI_row, arrV_store]
  congr 2
  funext q
  by_cases h : q = i.toNatClampNeg <;> simp [updV, va_up, h]
theorem q_zast (X : Cx D aC p s m args meth c cc own nL nm ret) (M : Mm D aC b0 w H) (hS : va_S (Fb b0) s.heap H locs) {a : Nat} (ha : wK w a = 102) {i x : Int32} (hx : x = 0 ∨ x = 1) (hin : vp_in i (wN w a)) (hdg : decode cc pc = .ok (.bastore, 1))
    (kk : ∀ (H1 : Heap) (locs1 : List Loc), Mm D aC b0 (sI w a i.toNatClampNeg x) H1 → va_S (Fb b0) s.heap H1 locs1 → W p l e R s m args below meth c H1 locs1 cells slots Q (F0 m (pc + 1) ls rest)) : W p l e R s m args below meth c H locs cells slots Q (F0 m pc ls (.int x :: .int i :: va_rf (some a) :: rest)) := by
  refine W.zast X.1 X.2.1 (M.2.2.2 _ _ (M.arr (t := 2) ha)) ((X.2.2.2.2.2.2.2.2.1.2 2 _ rfl).1 (wN w a) (fun j => .int (wI w a j))) (fun q => by cases q) (by show ¬ (i < 0 ∨ (arrV _ _ _).slots.size ≤ _); rw [arrV_size]; exact hin) rfl rfl hdg fun H1 e1 z oq => ?_
  refine kk H1 _ (M.ast (t := 2) ha z oq rfl rfl sI_oth ?_) (hS.put z oq (M.2.2.1 a (by omega)).1)
  rw [e1, show narrow .boolean (.int x) = .int x by rcases hx with rfl | rfl <;> decide +kernel]
  show some ((arrV (aC 2) (wN w a) (fun j => .int (wI w a j))).setSlot _ _) = some (arrV (aC 2) (wN w a) (fun j => .int (wI (sI w a i.toNatClampNeg x) a j)))
  rw [sI_row, arrV_store]
  congr 2
  funext q
  by_cases h : q = i.toNatClampNeg <;> simp [updV, va_up, h]
theorem q_last (X : Cx D aC p s m args meth c cc own nL nm ret) (M : Mm D aC b0 w H) (hS : va_S (Fb b0) s.heap H locs) {a : Nat} (ha : wK w a = 101) {i : Int32} {x : Int64} (hin : vp_in i (wN w a)) (hdg : decode cc pc = .ok (.lastore, 1))
    (kk : ∀ (H1 : Heap) (locs1 : List Loc), Mm D aC b0 (sL w a i.toNatClampNeg x) H1 → va_S (Fb b0) s.heap H1 locs1 → W p l e R s m args below meth c H1 locs1 cells slots Q (F0 m (pc + 1) ls rest)) : W p l e R s m args below meth c H locs cells slots Q (F0 m pc ls (.long x :: .int i :: va_rf (some a) :: rest)) := by
  refine W.last X.1 X.2.1 (M.2.2.2 _ _ (M.arr (t := 1) ha)) ((X.2.2.2.2.2.2.2.2.1.2 1 _ rfl).1 (wN w a) (fun j => .long (wL w a j))) (fun q => by cases q) (by show ¬ (i < 0 ∨ (arrV _ _ _).slots.size ≤ _); rw [arrV_size]; exact hin) rfl rfl hdg fun H1 e1 z oq => ?_
  refine kk H1 _ (M.ast (t := 1) ha z oq rfl rfl sL_oth ?_) (hS.put z oq (M.2.2.1 a (by omega)).1)
  rw [e1]
  show some ((arrV (aC 1) (wN w a) (fun j => .long (wL w a j))).setSlot _ _) = some (arrV (aC 1) (wN w a) (fun j => .long (wL (sL w a i.toNatClampNeg x) a j)))
  rw [sL_row, arrV_store]
  congr 2
  funext q
  by_cases h : q = i.toNatClampNeg <;> simp [updV, va_up, h]
/-- null, or a cell of that kind -/
def okr (w : Wd) (r : Option Nat) (kd : Nat) : Prop := r = none ∨ ∃ v, r = some v ∧ wK w v = kd
theorem q_aast (X : Cx D aC p s m args meth c cc own nL nm ret) (M : Mm D aC b0 w H) (hS : va_S (Fb b0) s.heap H locs) {a t ci : Nat} {C : String} (hA : AR t C ci) (ha : wK w a = 100 + t) {i : Int32} {x : Option Nat} (hx : okr w x (ci + 1)) (hin : vp_in i (wN w a)) (hdg : decode cc pc = .ok (.aastore, 1))
    (kk : ∀ (H1 : Heap) (locs1 : List Loc), Mm D aC b0 (sR w a i.toNatClampNeg x) H1 → va_S (Fb b0) s.heap H1 locs1 → W p l e R s m args below meth c H1 locs1 cells slots Q (F0 m (pc + 1) ls rest)) : W p l e R s m args below meth c H locs cells slots Q (F0 m pc ls (va_rf x :: .int i :: va_rf (some a) :: rest)) := by
  have hlt : i.toNatClampNeg < wN w a := Nat.not_le.mp fun q => hin (Or.inr q)
  have h0 : ¬ i < 0 := fun q => hin (Or.inl q)
  have hcell : H[a]? = some (arrV (aC t) (wN w a) (fun j => va_rf (wR w a j))) := by
    have h1 := M.2.2.2 _ _ (M.arr ha)
    rw [hA.row] at h1
    exact h1
  have key : ∀ H1 : Heap, H1[a]? = some ((arrV (aC t) (wN w a) (fun j => va_rf (wR w a j))).setSlot i.toNatClampNeg (va_rf x)) → H1.size = H.size → (∀ q, q ≠ a → H1[q]? = H[q]?) → Mm D aC b0 (sR w a i.toNatClampNeg x) H1 := by
    intro H1 e1 z oq
    refine M.ast ha z oq rfl rfl sR_oth ?_
    rw [e1, hA.row]
    show some _ = some (arrV (aC t) (wN w a) (fun j => va_rf (wR (sR w a i.toNatClampNeg x) a j)))
    rw [sR_row, arrV_store]
    congr 2
    funext q
    by_cases h : q = i.toNatClampNeg <;> simp [updV, va_up, h]
  have hArr : s.isArrayOf (arrV (aC t) (wN w a) (fun j => va_rf (wR w a j))) (.object C) := (X.2.2.2.2.2.2.2.2.1.2 t _ hA.ty).1 (wN w a) (fun j => va_rf (wR w a j))
  rcases hx with rfl | ⟨v, rfl, hv⟩
  · exact va_WaastN (C := C) X.1 X.2.1 hcell hArr (fun h => by cases h) (by show ¬ (i < 0 ∨ (arrV _ _ _).slots.size ≤ _); rw [arrV_size]; exact hin) rfl rfl hdg fun H1 e1 z oq => kk H1 _ (key H1 e1 z oq) (hS.put z oq (M.2.2.1 a (by omega)).1)
  · obtain ⟨r, hr, hr1, h99⟩ := hA.cl
    subst hr1
    obtain ⟨r', hr', cellV, g1, g2, g3, -⟩ := M.2.2.2 _ _ (M.obj hv h99)
    have hcls := (X.2.2.2.2.2.2.2.2.1.1 ci r hr).2
    obtain ⟨kA, comp, k1, k2, k3, -⟩ := (X.2.2.2.2.2.2.2.2.1.2 t _ hA.ty).2
    have hcomp : comp = D.1 ci := Option.some.inj (k3.symm.trans hcls.1)
    subst hcomp
    have hcls' := hcls
    obtain ⟨kC, hkC, -⟩ := hcls.2
    exact W.aast X.1 X.2.1 hcell (fun q h => by cases h) (fun h => by cases h) k1 k2 rfl hkC ⟨h0, by show _ < (arrV _ _ _).slots.size; rw [arrV_size]; exact hlt⟩ g1 (fun q h => by rw [g3] at h; cases h) (by rw [g2]; exact hkC) (by rw [g2]; exact va_assign hcls') rfl rfl hdg fun H1 e1 z oq => kk H1 _ (key H1 e1 z oq) (hS.put z oq (M.2.2.1 a (by omega)).1)
/-- behind a new cell -/
theorem Mm.push {H1 : Heap} {kd n : Nat} (M : Mm D aC b0 w H) (z : H1.size = H.size + 1) (o1 : ∀ q, q < H.size → H1[q]? = H[q]?) (he : va_at D vwCl (wn w, cellOf aC (newC w kd n) (wn w)) H1) : Mm D aC b0 (newC w kd n) H1 := by
  have hn : wn (newC w kd n) = wn w + 1 := rfl
  refine ⟨by rw [z, hn, M.1], by rw [hn]; exact Nat.le_succ_of_le M.2.1, fun a ha => ?_, ?_⟩
  · by_cases h : a = wn w
    · subst h; rw [hn]; exact ⟨M.2.1, Nat.lt_succ_self _⟩
    · have h2 : wK (newC w kd n) a = wK w a := va_up_ne _ _ h
      rw [h2] at ha
      obtain ⟨h3, h4⟩ := M.2.2.1 a ha
      rw [hn]; exact ⟨h3, Nat.lt_succ_of_lt h4⟩
  · rw [← wl_push M.2.1 hn (fun b hb => cell_oth (va_up_ne _ _ (Nat.ne_of_lt hb)) (va_up_ne _ _ (Nat.ne_of_lt hb)) (va_up_ne _ _ (Nat.ne_of_lt hb)) (va_up_ne _ _ (Nat.ne_of_lt hb)) (va_up_ne _ _ (Nat.ne_of_lt hb)))]
    refine va_P.app (M.2.2.2.kept fun k x hx => o1 x.1 ((M.2.2.2 k x hx).lt)) (fun k x hx => ?_)
    have hz : k < 1 := (List.getElem?_eq_some_iff.mp hx).1
    rw [show k = 0 by omega] at hx
    cases hx
    exact he
theorem newS {H1 : Heap} (hS : va_S (Fb b0) s.heap H locs) (z : H1.size = H.size + 1) (o1 : ∀ q, q < H.size → H1[q]? = H[q]?) : va_S (Fb b0) s.heap H1 locs :=
  ⟨Nat.le_trans hS.1 (by omega), fun x h1 h2 => (o1 x (Nat.lt_of_lt_of_le h1 hS.1)).trans (hS.2.1 x h1 h2), hS.2.2⟩
/-- a class that 'own' names by its entry ix -/
def CL (own : String) (ix ci N : Nat) : Prop := ∃ (C : String) (T : u_T) (ty : Nat → FieldType), vwCl[ci]? = some (C, T, N) ∧ (∀ w ∈ u_ws C T N, w ∈ Gw) ∧ (∀ k, k < N → parseFieldDescriptor (T k).2.2.1 = some (ty k)) ∧ Cond.classLink own ix C ∈ Gw ∧ Cond.instantiable C N ∈ Gw ∧ Cond.initialized C ∈ Gw ∧ (∀ j, j < N → defaultValue (ty j) = vp_V ((fT ci).map (fun t => match t with | 1 => Value.long 0 | 2 => Value.null | _ => Value.int 0)) j) ∧ ci < 99
theorem q_new (X : Cx D aC p s m args meth c cc own nL nm ret) (M : Mm D aC b0 w H) (hS : va_S (Fb b0) s.heap H locs) {ix ci N : Nat} (hC : CL own ix ci N) {MC MS : Nat} (e3 : R.cells = MC) (e4 : R.slots = MS) (hcells : cells + 1 ≤ MC) (hslots : slots + N ≤ MS) (hdg : decode cc pc = .ok (.new ix, 3))
    (kk : ∀ (H1 : Heap), Mm D aC b0 (newC w (ci + 1) 0) H1 → va_S (Fb b0) s.heap H1 locs → W p l e R s m args below meth c H1 locs (cells + 1) (slots + N) Q (F0 m (pc + 3) ls (va_rf (some (wn w)) :: rest))) : W p l e R s m args below meth c H locs cells slots Q (F0 m pc ls rest) := by
  subst e3 e4
  obtain ⟨hx, hb, -, hown, -, -, -, hts, hK⟩ := X
  obtain ⟨C, T, ty, hc, hin, hty, h1, h2, h3, hd, h99⟩ := hC
  have hKn := hK.1.1 ci _ hc
  refine W.newcK hx hb hown (hts _ h1) (hts _ h2) (hts _ h3) rfl hdg hcells hslots hKn.2.1 M.1 fun H1 kC hkC e1 z1 o1 => ?_
  rw [← M.1] at e1 z1 o1
  refine kk H1 (M.push z1 o1 ?_) (newS hS z1 o1)
  rw [cell_obj (ci := ci) (by show va_up (wK w) (wn w) (ci + 1) (wn w) = ci + 1; simp [va_up]) h99]
  refine ⟨_, hc, ?_⟩
  rw [← M.1]
  refine (u_born ty hts hin hKn hkC e1 hty).to (fun j hj => ?_)
  rw [hd j hj]
  unfold vp_V
  rw [List.getD_eq_getElem?_getD, List.getD_eq_getElem?_getD, List.getElem?_map]
  cases ht : (fT ci)[j]? with
  | none =>
    rw [List.getElem?_eq_none]
    · rfl
    · unfold flds; rw [List.length_mapIdx]; exact List.getElem?_eq_none_iff.mp ht
  | some t =>
    rw [flds_get ht]
    have hI : wI (newC w (ci + 1) 0) H.size j = 0 := by rw [M.1]; show va_up (wI w) (wn w) (fun _ => 0) (wn w) j = 0; simp [va_up]
    have hL : wL (newC w (ci + 1) 0) H.size j = 0 := by rw [M.1]; show va_up (wL w) (wn w) (fun _ => 0) (wn w) j = 0; simp [va_up]
    have hR : wR (newC w (ci + 1) 0) H.size j = none := by rw [M.1]; show va_up (wR w) (wn w) (fun _ => none) (wn w) j = none; simp [va_up]
    simp only [Option.map_some, Option.getD_some]
    unfold fV
    rw [hI, hL, hR]
    rcases t with _ | _ | _ | n <;> rfl
end QA
end
section
/-! ROWS: new arrays, references in locals, null tests, calls, ends -/
section QC
variable {l : Launch} {D : va_G} {aC : Nat → ClassId} {b0 : Nat} {p : Program} {e : Env} {R : Room} {s : State} {m : MethodId} {args : Array Value} {below : List Frame} {meth : Method} {c : Code} {cc : ByteArray} {own : String} {nL : Nat} {nm : String} {ret : Option FieldType} {w : Wd} {H : Heap} {locs : List Loc} {cells slots : Nat} {Q : State → Prop} {pc : Nat} {ls : Array Slot} {rest : List Value}
/-- a primitive array's kind -/
def AP (t : Nat) (at_ : ArrayType) : Prop := (t = 0 ∧ at_ = .int) ∨ (t = 1 ∧ at_ = .long) ∨ (t = 2 ∧ at_ = .boolean)
theorem q_newa (X : Cx D aC p s m args meth c cc own nL nm ret) (M : Mm D aC b0 w H) (hS : va_S (Fb b0) s.heap H locs) {t : Nat} {at_ : ArrayType} (hA : AP t at_) (hG : Cond.arrayClass (newarray.typeOf at_) ∈ Gw) {n : Int32} {bd : Nat} (hn : ¬ n < 0) (hbd : n.toNatClampNeg ≤ bd) (hsm : bd ≤ 65536) {MC MS : Nat} (e3 : R.cells = MC) (e4 : R.slots = MS) (hcells : cells + 1 ≤ MC) (hslots : slots + bd ≤ MS) (hdg : decode cc pc = .ok (.newarray at_, 2))
    (kk : ∀ (H1 : Heap), Mm D aC b0 (newC w (100 + t) n.toNatClampNeg) H1 → va_S (Fb b0) s.heap H1 locs → W p l e R s m args below meth c H1 locs (cells + 1) (slots + bd) Q (F0 m (pc + 2) ls (va_rf (some (wn w)) :: rest))) : W p l e R s m args below meth c H locs cells slots Q (F0 m pc ls (.int n :: rest)) := by
  subst e3 e4
  obtain ⟨hx, hb, -, hown, -, -, -, hts, hK⟩ := X
  have hcb : componentBytes (newarray.typeOf at_) ≤ 8 := by rcases hA with ⟨rfl, rfl⟩ | ⟨rfl, rfl⟩ | ⟨rfl, rfl⟩ <;> decide
  refine va_newaK hx hb (hts _ hG) rfl hdg rfl hn rfl (by
    have := Nat.mul_le_mul (Nat.le_trans hbd hsm) hcb
    omega) hcells (by omega) M.1 fun H1 cA e1 z1 o1 hAr hNm => ?_
  rw [← M.1] at e1 z1 o1 ⊢
  refine W.widen (Nat.le_refl _) (show slots + n.toNatClampNeg ≤ slots + bd by omega) ?_
  rw [M.1]
  refine kk H1 (M.push z1 o1 ?_) (newS hS z1 o1)
  rw [cell_arr (t := t) (by show va_up (wK w) (wn w) (100 + t) (wn w) = 100 + t; simp [va_up])]
  have hc : cA = aC t := by
    rcases hA with ⟨rfl, rfl⟩ | ⟨rfl, rfl⟩ | ⟨rfl, rfl⟩
    · exact Option.some.inj (hNm.symm.trans (hK.1.2 0 _ rfl).2)
    · exact Option.some.inj (hNm.symm.trans (hK.1.2 1 _ rfl).2)
    · exact Option.some.inj (hNm.symm.trans (hK.1.2 2 _ rfl).2)
  subst hc
  show H1[wn w]? = some (vp_cell (aC t) _)
  rw [← M.1, e1]
  have hI : wI (newC w (100 + t) n.toNatClampNeg) H.size = fun _ => 0 := by rw [M.1]; show va_up (wI w) (wn w) (fun _ => 0) (wn w) = _; simp [va_up]
  have hL : wL (newC w (100 + t) n.toNatClampNeg) H.size = fun _ => 0 := by rw [M.1]; show va_up (wL w) (wn w) (fun _ => 0) (wn w) = _; simp [va_up]
  have hN : wN (newC w (100 + t) n.toNatClampNeg) H.size = n.toNatClampNeg := by rw [M.1]; show va_up (wN w) (wn w) _ (wn w) = _; simp [va_up]
  rcases hA with ⟨rfl, rfl⟩ | ⟨rfl, rfl⟩ | ⟨rfl, rfl⟩
  · show _ = some (vp_cell (aC 0) (wN _ H.size, .inl (wI _ H.size)))
    rw [hI, hN]; rfl
  · show _ = some (vp_cell (aC 1) (wN _ H.size, .inr (.inl (wL _ H.size))))
    rw [hL, hN]; rfl
  · show _ = some (vp_cell (aC 2) (wN _ H.size, .inl (wI _ H.size)))
    rw [hI, hN]; rfl
theorem q_newq (X : Cx D aC p s m args meth c cc own nL nm ret) (M : Mm D aC b0 w H) (hS : va_S (Fb b0) s.heap H locs) {t ci ix : Nat} {C : String} (hA : AR t C ci) (hG : Cond.classLink own ix C ∈ Gw) {n : Int32} {bd : Nat} (hn : ¬ n < 0) (hbd : n.toNatClampNeg ≤ bd) (hsm : bd ≤ 65536) {MC MS : Nat} (e3 : R.cells = MC) (e4 : R.slots = MS) (hcells : cells + 1 ≤ MC) (hslots : slots + bd ≤ MS) (hdg : decode cc pc = .ok (.anewarray ix, 3))
    (kk : ∀ (H1 : Heap), Mm D aC b0 (newC w (100 + t) n.toNatClampNeg) H1 → va_S (Fb b0) s.heap H1 locs → W p l e R s m args below meth c H1 locs (cells + 1) (slots + bd) Q (F0 m (pc + 3) ls (va_rf (some (wn w)) :: rest))) : W p l e R s m args below meth c H locs cells slots Q (F0 m pc ls (.int n :: rest)) := by
  subst e3 e4
  obtain ⟨hx, hb, -, hown, -, -, -, hts, hK⟩ := X
  have hAO : va_AO C s := by
    rcases hA with ⟨rfl, rfl, rfl⟩ | ⟨rfl, rfl, rfl⟩ | ⟨rfl, rfl, rfl⟩ | ⟨rfl, rfl, rfl⟩
    · exact hK.2.2.2.2.1
    · exact hK.2.2.2.2.2.1
    · exact hK.2.2.2.2.2.2.1
    · exact hK.2.2.2.2.2.2.2
  refine W.anew hx hb hown (hts _ hG) (va_AO.use hAO) rfl hdg rfl hn (by omega) hcells (by omega) fun cA kA comp f1 f2 f3 f4 => ?_
  generalize hH1 : H.push ({ cls := cA, slots := Array.replicate n.toNatClampNeg .null, vm := .none } : Cell) = H1
  have z1 : H1.size = H.size + 1 := by rw [← hH1, Array.size_push]
  have e1 : H1[H.size]? = some (arrV cA n.toNatClampNeg (fun _ => .null)) := by rw [← hH1, Array.getElem?_push_size, ← arrV_new]
  have o1 : ∀ q : Nat, q < H.size → H1[q]? = H[q]? := fun q hq => by rw [← hH1, Array.getElem?_push, if_neg (Nat.ne_of_lt hq)]
  refine W.widen (Nat.le_refl _) (show slots + n.toNatClampNeg ≤ slots + bd by omega) ?_
  rw [M.1]
  refine kk H1 (M.push z1 o1 ?_) (newS hS z1 o1)
  rw [cell_arr (t := t) (by show va_up (wK w) (wn w) (100 + t) (wn w) = 100 + t; simp [va_up]), hA.row]
  have hc : cA = aC t := by
    obtain ⟨kA', comp', -, -, -, k4⟩ := (hK.1.2 t _ hA.ty).2
    exact Option.some.inj (f1.symm.trans k4)
  subst hc
  show H1[wn w]? = some (vp_cell (aC t) _)
  rw [← M.1, e1]
  have hR : wR (newC w (100 + t) n.toNatClampNeg) H.size = fun _ => none := by rw [M.1]; show va_up (wR w) (wn w) (fun _ => none) (wn w) = _; simp [va_up]
  have hN : wN (newC w (100 + t) n.toNatClampNeg) H.size = n.toNatClampNeg := by rw [M.1]; show va_up (wN w) (wn w) _ (wn w) = _; simp [va_up]
  rw [hR, hN]; rfl
theorem q_aload_n (X : Cx D aC p s m args meth c cc own nL nm ret) {k : Fin 4} {i : Nat} {r : Option Nat} (hdg : decode cc pc = .ok (.aload_n k, 1)) (hi : (k : Nat) = i) (hl : ls[i]? = some (.val (va_rf r)))
    (kk : W p l e R s m args below meth c H locs cells slots Q (F0 m (pc + 1) ls (va_rf r :: rest))) : W p l e R s m args below meth c H locs cells slots Q (F0 m pc ls rest) := by
  cases r with
  | none => exact lv_aload_nN X.1 X.2.1 hdg hi hl kk
  | some a => exact lv_aload_n X.1 X.2.1 hdg hi hl kk
theorem q_aload (X : Cx D aC p s m args meth c cc own nL nm ret) {i : Nat} {r : Option Nat} (hdg : decode cc pc = .ok (.aload i, 2)) (hl : ls[i]? = some (.val (va_rf r)))
    (kk : W p l e R s m args below meth c H locs cells slots Q (F0 m (pc + 2) ls (va_rf r :: rest))) : W p l e R s m args below meth c H locs cells slots Q (F0 m pc ls rest) := by
  cases r with
  | none => exact lv_aloadN X.1 X.2.1 hdg hl kk
  | some a => exact lv_aload X.1 X.2.1 hdg hl kk
theorem q_astore_n (X : Cx D aC p s m args meth c cc own nL nm ret) {k : Fin 4} {i : Nat} {r : Option Nat} {lv lv' : List (Nat × Value)} (hdg : decode cc pc = .ok (.astore_n k, 1)) (hi : (k : Nat) = i) (h : lv_has ls nL lv) (hn : i < nL) (hl : (i, va_rf r) :: lv.filter (fun q => !(q.1 == i) && !(q.1 + 1 == i && q.2.category == 2)) = lv')
    (kk : ∀ ls' : Array Slot, lv_has ls' nL lv' → W p l e R s m args below meth c H locs cells slots Q (F0 m (pc + 1) ls' rest)) : W p l e R s m args below meth c H locs cells slots Q (F0 m pc ls (va_rf r :: rest)) := by
  cases r with
  | none => exact lv_astore_nN X.1 X.2.1 hdg hi h hn hl kk
  | some a => exact lv_astore_n X.1 X.2.1 hdg hi h hn hl kk
theorem q_astore (X : Cx D aC p s m args meth c cc own nL nm ret) {i : Nat} {r : Option Nat} {lv lv' : List (Nat × Value)} (hdg : decode cc pc = .ok (.astore i, 2)) (h : lv_has ls nL lv) (hn : i < nL) (hl : (i, va_rf r) :: lv.filter (fun q => !(q.1 == i) && !(q.1 + 1 == i && q.2.category == 2)) = lv')
    (kk : ∀ ls' : Array Slot, lv_has ls' nL lv' → W p l e R s m args below meth c H locs cells slots Q (F0 m (pc + 2) ls' rest)) : W p l e R s m args below meth c H locs cells slots Q (F0 m pc ls (va_rf r :: rest)) := by
  cases r with
  | none => exact lv_astoreN X.1 X.2.1 hdg h hn hl kk
  | some a => exact lv_astore X.1 X.2.1 hdg h hn hl kk
theorem q_null (X : Cx D aC p s m args meth c cc own nL nm ret) (hdg : decode cc pc = .ok (.aconst_null, 1)) (kk : W p l e R s m args below meth c H locs cells slots Q (F0 m (pc + 1) ls (va_rf none :: rest))) : W p l e R s m args below meth c H locs cells slots Q (F0 m pc ls rest) := lv_null X.1 X.2.1 hdg kk
theorem q_ifnull (X : Cx D aC p s m args meth c cc own nL nm ret) {r : Option Nat} {off : Int} {tgt : Nat} (hdg : decode cc pc = .ok (.ifnull off, 3)) (ht : (pc : Int) + off = (tgt : Int))
    (kt : r = none → W p l e R s m args below meth c H locs cells slots Q (F0 m tgt ls rest)) (kf : ¬ r = none → W p l e R s m args below meth c H locs cells slots Q (F0 m (pc + 3) ls rest)) : W p l e R s m args below meth c H locs cells slots Q (F0 m pc ls (va_rf r :: rest)) := by
  cases r with
  | none => exact lv_ifnullN X.1 X.2.1 hdg ht (kt rfl)
  | some a => exact lv_ifnull X.1 X.2.1 hdg (kf (fun h => by cases h))
theorem q_ifnonnull (X : Cx D aC p s m args meth c cc own nL nm ret) {r : Option Nat} {off : Int} {tgt : Nat} (hdg : decode cc pc = .ok (.ifnonnull off, 3)) (ht : (pc : Int) + off = (tgt : Int))
    (kt : ¬ r = none → W p l e R s m args below meth c H locs cells slots Q (F0 m tgt ls rest)) (kf : r = none → W p l e R s m args below meth c H locs cells slots Q (F0 m (pc + 3) ls rest)) : W p l e R s m args below meth c H locs cells slots Q (F0 m pc ls (va_rf r :: rest)) := by
  cases r with
  | none => exact lv_ifnonnullN X.1 X.2.1 hdg (kf rfl)
  | some a => exact lv_ifnonnull X.1 X.2.1 hdg ht (kt (fun h => by cases h))
-- ends
theorem q_iret (X : Cx D aC p s m args meth c cc own nL nm (some .int)) (M : Mm D aC b0 w H) (hS : va_S (Fb b0) s.heap H locs) {mc ms : Nat} (hc : cells ≤ mc) (hs : slots ≤ ms) {x : Int32} (hdg : decode cc pc = .ok (.ireturn, 1)) : W p l e R s m args below meth c H locs cells slots (MQ below (Qr D aC b0 (some (.int x)) w) args s mc ms (Fb b0)) (F0 m pc ls [.int x]) := by
  obtain ⟨hx, hb, -, hown, hlk, -, hr, hts, hK⟩ := X
  exact W.widen hc hs (W.iret hx hb hr (fun t ht hW => ⟨⟨rfl, by rw [ht]; exact M⟩, hS.F ht⟩) hS.2.2 hdg)
theorem q_zret (X : Cx D aC p s m args meth c cc own nL nm (some .boolean)) (M : Mm D aC b0 w H) (hS : va_S (Fb b0) s.heap H locs) {mc ms : Nat} (hc : cells ≤ mc) (hs : slots ≤ ms) {x : Int32} (hx01 : x = 0 ∨ x = 1) (hdg : decode cc pc = .ok (.ireturn, 1)) : W p l e R s m args below meth c H locs cells slots (MQ below (Qr D aC b0 (some (.int x)) w) args s mc ms (Fb b0)) (F0 m pc ls [.int x]) := by
  obtain ⟨hx, hb, -, hown, hlk, -, hr, hts, hK⟩ := X
  exact W.widen hc hs (W.zret hx hb hr (by rcases hx01 with rfl | rfl <;> decide +kernel) (fun t ht hW => ⟨⟨rfl, by rw [ht]; exact M⟩, hS.F ht⟩) hS.2.2 hdg)
theorem q_lret (X : Cx D aC p s m args meth c cc own nL nm (some .long)) (M : Mm D aC b0 w H) (hS : va_S (Fb b0) s.heap H locs) {mc ms : Nat} (hc : cells ≤ mc) (hs : slots ≤ ms) {x : Int64} (hdg : decode cc pc = .ok (.lreturn, 1)) : W p l e R s m args below meth c H locs cells slots (MQ below (Qr D aC b0 (some (.long x)) w) args s mc ms (Fb b0)) (F0 m pc ls [.long x]) := by
  obtain ⟨hx, hb, -, hown, hlk, -, hr, hts, hK⟩ := X
  exact W.widen hc hs (W.lret hx hb hr (fun t ht hW => ⟨⟨rfl, by rw [ht]; exact M⟩, hS.F ht⟩) hS.2.2 hdg)
theorem q_vret (X : Cx D aC p s m args meth c cc own nL nm none) (M : Mm D aC b0 w H) (hS : va_S (Fb b0) s.heap H locs) {mc ms : Nat} (hc : cells ≤ mc) (hs : slots ≤ ms) (hdg : decode cc pc = .ok (.return_, 1)) : W p l e R s m args below meth c H locs cells slots (MQ below (Qr D aC b0 none w) args s mc ms (Fb b0)) (F0 m pc ls []) := by
  obtain ⟨hx, hb, -, hown, hlk, -, hr, hts, hK⟩ := X
  exact W.widen hc hs (W.vret hx hb hr (fun t ht hW => ⟨⟨rfl, by rw [ht]; exact M⟩, hS.F ht⟩) hS.2.2 hdg)
theorem q_aret {C : String} (X : Cx D aC p s m args meth c cc own nL nm (some (.object C))) (M : Mm D aC b0 w H) (hS : va_S (Fb b0) s.heap H locs) {mc ms : Nat} (hc : cells ≤ mc) (hs : slots ≤ ms) {x : Option Nat} (hdg : decode cc pc = .ok (.areturn, 1)) : W p l e R s m args below meth c H locs cells slots (MQ below (Qr D aC b0 (some (va_rf x)) w) args s mc ms (Fb b0)) (F0 m pc ls [va_rf x]) := by
  obtain ⟨hx, hb, -, hown, hlk, -, hr, hts, hK⟩ := X
  exact W.widen hc hs (W.aret hx hb hr (Or.inl ⟨_, rfl⟩) (by cases x; exact Or.inl rfl; exact Or.inr ⟨_, rfl⟩) (fun t ht hW => ⟨⟨rfl, by rw [ht]; exact M⟩, hS.F ht⟩) hS.2.2 hdg)
end QC
end
section
/-! ROWS: calls, a method's entry, arraycopy, max -/
section QD
variable {l : Launch} {D : va_G} {aC : Nat → ClassId} {b0 : Nat} {p : Program} {e : Env} {R : Room} {s : State} {m : MethodId} {args : Array Value} {below : List Frame} {meth : Method} {c : Code} {cc : ByteArray} {own : String} {nL : Nat} {nm : String} {ret : Option FieldType} {w : Wd} {H : Heap} {locs : List Loc} {cells slots : Nat} {Q : State → Prop} {pc : Nat} {ls : Array Slot} {rest st0 st2 : List Value}
def ML (own : String) (ix : Nat) (y : MethodName) (bytes : ByteArray) (maxL : Nat) (ret : Option FieldType) (n : Nat) : Prop := Cond.methodLink own ix y ∈ Gw ∧ Cond.code y bytes maxL ret ∈ Gw ∧ Cond.initialized y.cls ∈ Gw ∧ (y.cls ≠ "java/lang/invoke/MethodHandle" ∧ y.cls ≠ "java/lang/invoke/VarHandle" ∧ (parseMethodDescriptor y.desc).map (fun d => d.parameters.length) = some n)
def MN (y : MethodName) (bytes : ByteArray) (maxL : Nat) (ret : Option FieldType) (n : Nat) : Prop := Cond.code y bytes maxL ret ∈ Gw ∧ Cond.initialized y.cls ∈ Gw ∧ (y.cls ≠ "java/lang/invoke/MethodHandle" ∧ y.cls ≠ "java/lang/invoke/VarHandle" ∧ (parseMethodDescriptor y.desc).map (fun d => d.parameters.length) = some n)
/-- behind a call -/
theorem q_go {w' : Wd} {ov : Option Value} {av : Array Value} {mc ms : Nat} (hr : va_Run p l e R s m args below meth c H locs cells slots mc ms (F0 m pc ls st0) rest (Qr D aC b0 ov w' av) (Fb b0)) (hS : va_S (Fb b0) s.heap H locs) (h2 : ov.toList ++ rest = st2)
    (kk : ∀ (H1 : Heap) (locs1 : List Loc), Mm D aC b0 w' H1 → va_S (Fb b0) s.heap H1 locs1 → W p l e R s m args below meth c H1 locs1 (cells + mc) (slots + ms) Q (F0 m (pc + 3) ls st2)) : W p l e R s m args below meth c H locs cells slots Q (F0 m pc ls st0) := by
  intro T hT X
  obtain ⟨v, st₀, t, T', L, h0, X', hL, e1, e2, ⟨⟨hv, hM⟩, hz, hk⟩, st⟩ := hr T hT X
  cases hv
  subst h2
  rw [h0] at hz hk
  obtain ⟨t2, a1, b1⟩ := kk T'.heap (locs ++ L) (by rw [e1]; exact hM)
    ⟨Nat.le_trans hS.1 (by rw [e1]; exact hz), fun q h1 h2 => by rw [e1, hk q (Nat.lt_of_lt_of_le h1 hS.1) h2]; exact hS.2.1 q h1 h2, fun q hq => by
      rcases List.mem_append.mp hq with h | h
      · exact hS.2.2 q h
      · exact hL q h⟩ T' rfl X'
  exact ⟨t2, st t2 a1, b1⟩
theorem blind (D : va_G) (aC : Nat → ClassId) (b0 : Nat) (av : List Value) (w : Wd) : FrameBlind (va_Pc av (fun U => Mm D aC b0 w U.heap ∧ KX D aC U)) := fun a U g mk h => ⟨h.1, h.2.1, h.2.2.calling g mk a⟩
theorem pre (X : Cx D aC p s m args meth c cc own nL nm ret) (M : Mm D aC b0 w H) (av : List Value) : ∀ U : State, U.heap = H → s.WarmedH U.vm → va_Pc av (fun U => Mm D aC b0 w U.heap ∧ KX D aC U) av.toArray U := fun U hU hW => ⟨rfl, by rw [hU]; exact M, X.2.2.2.2.2.2.2.2.warm hW⟩
theorem q_cS (X : Cx D aC p s m args meth c cc own nL nm ret) (M : Mm D aC b0 w H) (hS : va_S (Fb b0) s.heap H locs) (hl : ls.size = nL) {y : MethodName} {bytes : ByteArray} {maxL ix n : Nat} {rt : Option FieldType} {rm : Room} {As : List Value} {ov : Option Value} {w' : Wd} (hM : Ct l D aC b0 y (Cond.code y bytes maxL rt :: Gw) rm As w ov w') (hL : ML own ix y bytes maxL rt n) (hst : Cond.static y ∈ Gw) (hn : As.length = n) (hR : rm.frames + 1 ≤ R.frames ∧ 8 + (maxL + 11) + rm.locals ≤ R.locals) (hstk : st0 = As.reverse ++ rest) (h8 : (rest.map fun v => v.category).sum ≤ 8) {mc ms MC MS : Nat} (e1 : rm.cells = mc) (e2 : rm.slots = ms) (e3 : R.cells = MC) (e4 : R.slots = MS) (hc : cells + mc ≤ MC) (hs : slots + ms ≤ MS) (hdg : decode cc pc = .ok (.invokestatic ix, 3)) (h2 : ov.toList ++ rest = st2)
    (kk : ∀ (H1 : Heap) (locs1 : List Loc), Mm D aC b0 w' H1 → va_S (Fb b0) s.heap H1 locs1 → W p l e R s m args below meth c H1 locs1 (cells + mc) (slots + ms) Q (F0 m (pc + 3) ls st2)) : W p l e R s m args below meth c H locs cells slots Q (F0 m pc ls st0) := by
  subst e1 e2 e3 e4
  exact q_go (va_runS ⟨X.1, X.2.1, X.2.2.1, X.2.2.2.1, X.2.2.2.2.2.2.2.1⟩ hM ⟨callB_of n X.2.2.2.2.2.2.2.1 (gInL hL.2.1) rfl rfl rfl (X.2.2.2.2.2.2.2.1 _ hL.2.2.1) (X.2.2.2.2.2.2.2.1 _ hL.1) hL.2.2.2 hR, X.2.2.2.2.2.2.2.1 _ hst⟩ ⟨blind D aC b0 As w, pre X M As⟩ rfl hn hl hstk (lv_room h8) hdg ⟨hc, hs⟩) hS h2 kk
theorem q_cI (X : Cx D aC p s m args meth c cc own nL nm ret) (M : Mm D aC b0 w H) (hS : va_S (Fb b0) s.heap H locs) (hl : ls.size = nL) {y : MethodName} {bytes : ByteArray} {maxL ix n a : Nat} {rm : Room} {As : List Value} {w' : Wd} (hM : Ct l D aC b0 y (Cond.code y bytes maxL none :: Gw) rm (va_rf (some a) :: As) w none w') (hL : ML own ix y bytes maxL none n) (hst : Cond.instanceMethod y ∈ Gw) (hy : y.name = "<init>") (hn : As.length = n) (hR : rm.frames + 1 ≤ R.frames ∧ 8 + (maxL + 11) + rm.locals ≤ R.locals) (hstk : st0 = As.reverse ++ va_rf (some a) :: rest) (h8 : (rest.map fun v => v.category).sum ≤ 8) {mc ms MC MS : Nat} (e1 : rm.cells = mc) (e2 : rm.slots = ms) (e3 : R.cells = MC) (e4 : R.slots = MS) (hc : cells + mc ≤ MC) (hs : slots + ms ≤ MS) (hdg : decode cc pc = .ok (.invokespecial ix, 3))
    (kk : ∀ (H1 : Heap) (locs1 : List Loc), Mm D aC b0 w' H1 → va_S (Fb b0) s.heap H1 locs1 → W p l e R s m args below meth c H1 locs1 (cells + mc) (slots + ms) Q (F0 m (pc + 3) ls rest)) : W p l e R s m args below meth c H locs cells slots Q (F0 m pc ls st0) := by
  subst e1 e2 e3 e4
  exact q_go (va_runI ⟨X.1, X.2.1, X.2.2.1, X.2.2.2.1, X.2.2.2.2.2.2.2.1⟩ hM ⟨callB_of n X.2.2.2.2.2.2.2.1 (gInL hL.2.1) rfl rfl rfl (X.2.2.2.2.2.2.2.1 _ hL.2.2.1) (X.2.2.2.2.2.2.2.1 _ hL.1) hL.2.2.2 hR, hy, X.2.2.2.2.2.2.2.1 _ hst⟩ ⟨blind D aC b0 _ w, pre X M _⟩ rfl hn hl hstk (lv_room h8) hdg ⟨hc, hs⟩) hS rfl kk
theorem q_cV (X : Cx D aC p s m args meth c cc own nL nm ret) (M : Mm D aC b0 w H) (hS : va_S (Fb b0) s.heap H locs) (hl : ls.size = nL) {y : MethodName} {bytes : ByteArray} {maxL ix n a ci : Nat} {rt : Option FieldType} {rm : Room} {As : List Value} {ov : Option Value} {w' : Wd} {r : vw_C} (hM : Ct l D aC b0 y (Cond.code y bytes maxL rt :: Gw) rm (va_rf (some a) :: As) w ov w') (hL : ML own ix y bytes maxL rt n) (hst : Cond.instanceMethod y ∈ Gw) (hsel : Cond.selects r.1 y y ∈ Gw) (hci : vwCl[ci]? = some r) (h99 : ci < 99) (ha : wK w a = ci + 1) (hn : As.length = n) (hR : rm.frames + 1 ≤ R.frames ∧ 8 + (maxL + 11) + rm.locals ≤ R.locals) (hstk : st0 = As.reverse ++ va_rf (some a) :: rest) (h8 : (rest.map fun v => v.category).sum ≤ 8) {mc ms MC MS : Nat} (e1 : rm.cells = mc) (e2 : rm.slots = ms) (e3 : R.cells = MC) (e4 : R.slots = MS) (hc : cells + mc ≤ MC) (hs : slots + ms ≤ MS) (hdg : decode cc pc = .ok (.invokevirtual ix, 3)) (h2 : ov.toList ++ rest = st2)
    (kk : ∀ (H1 : Heap) (locs1 : List Loc), Mm D aC b0 w' H1 → va_S (Fb b0) s.heap H1 locs1 → W p l e R s m args below meth c H1 locs1 (cells + mc) (slots + ms) Q (F0 m (pc + 3) ls st2)) : W p l e R s m args below meth c H locs cells slots Q (F0 m pc ls st0) := by
  subst e1 e2 e3 e4
  exact q_go (va_runV ⟨X.1, X.2.1, X.2.2.1, X.2.2.2.1, X.2.2.2.2.2.2.2.1⟩ hM ⟨callB_of n X.2.2.2.2.2.2.2.1 (gInL hL.2.1) rfl rfl rfl (X.2.2.2.2.2.2.2.1 _ hL.2.2.1) (X.2.2.2.2.2.2.2.1 _ hL.1) hL.2.2.2 hR, X.2.2.2.2.2.2.2.1 _ hst, X.2.2.2.2.2.2.2.1 _ hsel⟩ ⟨blind D aC b0 _ w, va_recv X.2.2.2.2.2.2.2.2.1 M.2.2.2 hci (M.obj ha h99), pre X M _⟩ rfl hn hl hstk (lv_room h8) hdg ⟨hc, hs⟩) hS h2 kk
/-- calls of a nest mate's private members -/
theorem cnB {y : MethodName} {bytes : ByteArray} {maxL ix n : Nat} {rt : Option FieldType} {rm : Room} (X : Cx D aC p s m args meth c cc own nL nm ret) (hL : MN y bytes maxL rt n) (hN : va_Nw (.methodLinkNest own ix y RX5) s) (hR : rm.frames + 1 ≤ R.frames ∧ 8 + (maxL + 11) + rm.locals ≤ R.locals) : va_CN R s args own ix y RX5 bytes maxL rt (Cond.code y bytes maxL rt :: Gw) rm rm.cells rm.slots n :=
  va_cnB n X.2.2.2.2.2.2.2.1 (gInL hL.1) rfl rfl rfl hN (X.2.2.2.2.2.2.2.1 _ hL.2.1) hL.2.2 hR
theorem q_cSN (X : Cx D aC p s m args meth c cc own nL nm ret) (M : Mm D aC b0 w H) (hS : va_S (Fb b0) s.heap H locs) (hl : ls.size = nL) {y : MethodName} {bytes : ByteArray} {maxL ix n : Nat} {rt : Option FieldType} {rm : Room} {As : List Value} {ov : Option Value} {w' : Wd} (hM : Ct l D aC b0 y (Cond.code y bytes maxL rt :: Gw) rm As w ov w') (hL : MN y bytes maxL rt n) (hN : va_Nw (.methodLinkNest own ix y RX5) s) (hst : Cond.static y ∈ Gw) (hn : As.length = n) (hR : rm.frames + 1 ≤ R.frames ∧ 8 + (maxL + 11) + rm.locals ≤ R.locals) (hstk : st0 = As.reverse ++ rest) (h8 : (rest.map fun v => v.category).sum ≤ 8) {mc ms MC MS : Nat} (e1 : rm.cells = mc) (e2 : rm.slots = ms) (e3 : R.cells = MC) (e4 : R.slots = MS) (hc : cells + mc ≤ MC) (hs : slots + ms ≤ MS) (hdg : decode cc pc = .ok (.invokestatic ix, 3)) (h2 : ov.toList ++ rest = st2)
    (kk : ∀ (H1 : Heap) (locs1 : List Loc), Mm D aC b0 w' H1 → va_S (Fb b0) s.heap H1 locs1 → W p l e R s m args below meth c H1 locs1 (cells + mc) (slots + ms) Q (F0 m (pc + 3) ls st2)) : W p l e R s m args below meth c H locs cells slots Q (F0 m pc ls st0) := by
  subst e1 e2 e3 e4
  exact q_go (va_runSN ⟨X.1, X.2.1, X.2.2.1, X.2.2.2.1, X.2.2.2.2.2.2.2.1⟩ hM ⟨cnB X hL hN hR, X.2.2.2.2.2.2.2.1 _ hst, trivial⟩ ⟨blind D aC b0 As w, pre X M As⟩ rfl hn hl hstk (lv_room h8) hdg ⟨hc, hs⟩) hS h2 kk
theorem q_cIN (X : Cx D aC p s m args meth c cc own nL nm ret) (M : Mm D aC b0 w H) (hS : va_S (Fb b0) s.heap H locs) (hl : ls.size = nL) {y : MethodName} {bytes : ByteArray} {maxL ix n a : Nat} {rm : Room} {As : List Value} {w' : Wd} (hM : Ct l D aC b0 y (Cond.code y bytes maxL none :: Gw) rm (va_rf (some a) :: As) w none w') (hL : MN y bytes maxL none n) (hN : va_Nw (.methodLinkNest own ix y RX5) s) (hst : Cond.instanceMethod y ∈ Gw) (hy : y.name = "<init>") (hn : As.length = n) (hR : rm.frames + 1 ≤ R.frames ∧ 8 + (maxL + 11) + rm.locals ≤ R.locals) (hstk : st0 = As.reverse ++ va_rf (some a) :: rest) (h8 : (rest.map fun v => v.category).sum ≤ 8) {mc ms MC MS : Nat} (e1 : rm.cells = mc) (e2 : rm.slots = ms) (e3 : R.cells = MC) (e4 : R.slots = MS) (hc : cells + mc ≤ MC) (hs : slots + ms ≤ MS) (hdg : decode cc pc = .ok (.invokespecial ix, 3))
    (kk : ∀ (H1 : Heap) (locs1 : List Loc), Mm D aC b0 w' H1 → va_S (Fb b0) s.heap H1 locs1 → W p l e R s m args below meth c H1 locs1 (cells + mc) (slots + ms) Q (F0 m (pc + 3) ls rest)) : W p l e R s m args below meth c H locs cells slots Q (F0 m pc ls st0) := by
  subst e1 e2 e3 e4
  exact q_go (va_runIN ⟨X.1, X.2.1, X.2.2.1, X.2.2.2.1, X.2.2.2.2.2.2.2.1⟩ hM ⟨cnB X hL hN hR, hy, X.2.2.2.2.2.2.2.1 _ hst⟩ ⟨blind D aC b0 _ w, pre X M _⟩ rfl hn hl hstk (lv_room h8) hdg ⟨hc, hs⟩) hS rfl kk
theorem g_oi : Cond.instanceMethod objectInit ∈ Gw := List.mem_of_getElem? (i := 15) (by decide +kernel)
theorem g_oc : Cond.code objectInit ⟨#[0xb1]⟩ 1 none ∈ Gw := List.mem_of_getElem? (i := 16) (by decide +kernel)
/-- Object() -/
theorem q_obj (X : Cx D aC p s m args meth c cc own nL nm ret) (hl : ls.size = nL) {ix a : Nat} (h1 : Cond.methodLink own ix objectInit ∈ Gw) (hfr : 1 ≤ R.frames) (hlo : 12 + (rest.map fun v => v.category).sum ≤ R.locals) (hdg : decode cc pc = .ok (.invokespecial ix, 3))
    (kk : W p l e R s m args below meth c H locs cells slots Q (F0 m (pc + 3) ls rest)) : W p l e R s m args below meth c H locs cells slots Q (F0 m pc ls (va_rf (some a) :: rest)) :=
  W.objInit X.1 X.2.1 X.2.2.2.1 (X.2.2.2.2.2.2.2.1 _ h1) (X.2.2.2.2.2.2.2.1 _ g_oi) (X.2.2.2.2.2.2.2.1 _ g_oc) rfl (hl.trans X.2.2.1.symm) rfl hdg hfr (by show 2 * 0 + _ + 12 ≤ _; omega) kk
/-- a method's entry -/
theorem q_met {y : MethodName} {bytes : ByteArray} {maxL : Nat} {rt : Option FieldType} {rm : Room} {av : List Value} {ov : Option Value} {w' : Wd} (hp : plainName y.cls = true) (hlen : (lg_sl av).length ≤ maxL)
    (h : ∀ (p : Program) (e : Env) (s : State) (m : MethodId) (below : List Frame) (meth : Method) (c : Code), Cx D aC p s m av.toArray meth c bytes y.cls maxL y.name rt → Mm D aC b0 w s.heap → ∀ ls : Array Slot, lv_has ls maxL (lv_args 0 av) → W p l e rm s m av.toArray below meth c s.heap [] 0 0 (MQ below (Qr D aC b0 ov w') av.toArray s rm.cells rm.slots (Fb b0)) (F0 m 0 ls [])) : Ct l D aC b0 y (Cond.code y bytes maxL rt :: Gw) rm av w ov w' := by
  refine Met.ofW (cc := bytes) (maxL := maxL) (ret := rt) hp rfl ?_
  intro p e s m args below meth c s₁ B hml hv
  obtain ⟨rfl, M, hK⟩ := hv
  have hts := atoms_spec (ws := Cond.code y bytes maxL rt :: Gw) B.pre
  have hown : s.vm.findClass y.cls = some m.cls := findClass_of_methodNamed B.named
  have hnm : meth.name = y.name := (name_of_methodNamed B.named B.method).1
  have hl := lv_entry av (n := maxL) hlen
  rw [lg_entry_eq]
  exact h p e s m below meth c ⟨B.exec, B.bytes, hml, hown, B.notSynchronized, hnm, B.returns, fun w hw => hts w (List.mem_cons_of_mem _ hw), hK⟩ M _ hl
theorem q_max (X : Cx D aC p s m args meth c cc own nL nm ret) (hl : ls.size = nL) {ix : Nat} (h1 : Cond.methodLink own ix Lib.Math.max.name ∈ Gw) (h2 : Cond.static Lib.Math.max.name ∈ Gw) (h3 : Cond.initialized "java/lang/Math" ∈ Gw) (h4 : Cond.code Lib.Math.max.name Lib.Math.max.code 2 (some .int) ∈ Gw) (hfr : 1 ≤ R.frames) (hlo : (rest.map fun v => v.category).sum + 13 ≤ R.locals) {MC MS : Nat} (e3 : R.cells = MC) (e4 : R.slots = MS) (hc : cells ≤ MC) (hs : slots ≤ MS) {x y : Int32} (hdg : decode cc pc = .ok (.invokestatic ix, 3))
    (kk : W p l e R s m args below meth c H locs cells slots Q (F0 m (pc + 3) ls (.int (if x < y then y else x) :: rest))) : W p l e R s m args below meth c H locs cells slots Q (F0 m pc ls (.int y :: .int x :: rest)) := by
  subst e3 e4
  exact va_mmax X.1 X.2.1 (X.2.2.1.trans hl.symm) X.2.2.2.1 (X.2.2.2.2.2.2.2.1 _ h1) (X.2.2.2.2.2.2.2.1 _ h2) (X.2.2.2.2.2.2.2.1 _ h3) (X.2.2.2.2.2.2.2.1 _ h4) hfr hlo hc hs hdg kk
theorem cl_nn {z : Int32} (hz : ¬ z < 0) : z.toInt = (z.toNatClampNeg : Int) := by
  have hz0 : (0 : Int) ≤ z.toInt := by
    have := Int32.not_lt.mp hz
    simpa using Int32.le_iff_toInt_le.mp this
  show z.toInt = ((z.toInt.toNat : Nat) : Int)
  omega
/-- System.arraycopy over ints, over longs: which words it needs -/
def SA (own : String) (ix : Nat) : Prop := Cond.methodLink own ix arraycopyName ∈ Gw ∧ Cond.native arraycopyName ∈ Gw ∧ Cond.static arraycopyName ∈ Gw ∧ Cond.initialized "java/lang/System" ∈ Gw
theorem nfw18 : nativeFrameWords "java/lang/System" "arraycopy" 5 + 11 = 18 := by decide +kernel
theorem q_cpy (X : Cx D aC p s m args meth c cc own nL nm ret) (M : Mm D aC b0 w H) (hS : va_S (Fb b0) s.heap H locs) (hl : ls.size = nL) {ix t a0 a1 : Nat} {ty : FieldType} (hA : SA own ix) (ht : (tyL aC)[t]? = some (aC t, ty)) (hprim : refKind ty = false) (f0 f1 : Nat → Value) (k0 : wK w a0 = 100 + t) (k1 : wK w a1 = 100 + t) (hc0 : H[a0]? = some (arrV (aC t) (wN w a0) f0)) (hc1 : H[a1]? = some (arrV (aC t) (wN w a1) f1)) {sp dp n : Int32} (h1 : ¬ sp < 0) (h2 : ¬ dp < 0) (h3 : ¬ n < 0) (h4 : sp.toNatClampNeg + n.toNatClampNeg ≤ wN w a0) (h5 : dp.toNatClampNeg + n.toNatClampNeg ≤ wN w a1) (hfit : ∀ i, i < n.toNatClampNeg → fits ty (f0 (sp.toNatClampNeg + i)) = true) (href : ∀ j, f0 j ≠ .null ∧ ∀ q, f0 j ≠ .ref q)
    {w' : Wd} (hn : wn w' = wn w) (hk : wK w' = wK w) (ho : ∀ b, b ≠ a1 → cellOf aC w' b = cellOf aC w b) (he : copied (arrV (aC t) (wN w a0) f0) (arrV (aC t) (wN w a1) f1) sp dp n = vp_cell (aC t) (aRow w' a1 t))
    (hfr : 1 ≤ R.frames) (hlo : (rest.map fun v => v.category).sum + 18 ≤ R.locals) (hdg : decode cc pc = .ok (.invokestatic ix, 3))
    (kk : ∀ (H1 : Heap) (locs1 : List Loc), Mm D aC b0 w' H1 → va_S (Fb b0) s.heap H1 locs1 → W p l e R s m args below meth c H1 locs1 cells slots Q (F0 m (pc + 3) ls rest)) : W p l e R s m args below meth c H locs cells slots Q (F0 m pc ls (.int n :: .int dp :: va_rf (some a1) :: .int sp :: va_rf (some a0) :: rest)) := by
  obtain ⟨hx, hb, hml, hown, -, -, -, hts, hK⟩ := X
  intro T hT X
  obtain ⟨-, q0, hq0, cm0, hkk0⟩ := (hK.1.2 t _ ht).1 (wN w a0) f0
  obtain ⟨-, q1, hq1, cm1, hkk1⟩ := (hK.1.2 t _ ht).1 (wN w a1) f1
  obtain ⟨vm', X', step⟩ := X.arraycopy hx hown (hts _ hA.1) (hts _ hA.2.1) (hts _ hA.2.2.1) (hts _ hA.2.2.2) (src := a0) (dst := a1) (cs := arrV (aC t) (wN w a0) f0) (cd := arrV (aC t) (wN w a1) f1) (srcPos := sp) (destPos := dp) (n := n) (by rw [hT]; exact hc0) (by rw [hT]; exact hc1)
    (fun _ h => by cases h) (fun _ h => by cases h) (fun h => by cases h) (fun h => by cases h) hq0 hq1 hkk0 hkk1 (by simp [hprim]) h1 h2 h3
    (by rw [cl_nn h1, cl_nn h3, arrV_size]; omega)
    (by rw [cl_nn h2, cl_nn h3, arrV_size]; omega)
    (fun vm₁ _ i hi => by
      have e : (arrV (aC t) (wN w a0) f0).slots.getD (sp.toNatClampNeg + i) .null = f0 (sp.toNatClampNeg + i) := by
        rw [Array.getD_eq_getD_getElem?, arrV_read _ _ (by omega)]
        rfl
      refine ⟨?_, ?_⟩
      · rw [e]
        exact hfit i hi
      · rw [e]
        have hh := href (sp.toNatClampNeg + i)
        cases hv : f0 (sp.toNatClampNeg + i) with
        | null => exact absurd hv hh.1
        | ref q => exact absurd hv (hh.2 q)
        | _ => trivial)
    (g := F0 m pc ls (.int n :: .int dp :: .ref a1 :: .int sp :: .ref a0 :: rest)) rfl (by rw [hml]; exact hl) (rest := rest) rfl (by rw [hb]; exact hdg) hfr (by show 2 * 0 + _ + _ ≤ _; rw [nfw18]; omega)
  rw [he] at X' step
  have hlt : a1 < H.size := (Array.getElem?_eq_some_iff.mp hc1).1
  have hheap : ((T.setVm vm').setCell a1 (vp_cell (aC t) (aRow w' a1 t))).heap = H.setIfInBounds a1 (vp_cell (aC t) (aRow w' a1 t)) := by rw [← hT]; rfl
  have oq : ∀ q : Nat, q ≠ a1 → (H.setIfInBounds a1 (vp_cell (aC t) (aRow w' a1 t)))[q]? = H[q]? := fun q hq => by simp [Array.getElem?_setIfInBounds, Ne.symm hq]
  have hA1 : b0 ≤ a1 := (M.2.2.1 a1 (by omega)).1
  obtain ⟨t2, g1, g2⟩ := kk _ _ (M.ast k1 (by simp) oq hn hk ho (by simp [Array.getElem?_setIfInBounds, hlt])) ⟨by simp; exact hS.1, fun q g1 g2 => by
      rw [oq q (fun e => g2 (by rw [e]; exact hA1))]
      exact hS.2.1 q g1 g2, fun q hq => by
      rcases List.mem_append.mp hq with h | h
      · exact hS.2.2 q h
      · obtain ⟨z, -, hz⟩ := List.mem_map.mp h
        rw [← hz]
        exact hA1⟩ _ hheap X'
  exact ⟨t2, step t2 g1, g2⟩
theorem q_cpyI (X : Cx D aC p s m args meth c cc own nL nm ret) (M : Mm D aC b0 w H) (hS : va_S (Fb b0) s.heap H locs) (hl : ls.size = nL) {ix a0 a1 : Nat} (hA : SA own ix) (k0 : wK w a0 = 100) (k1 : wK w a1 = 100) {sp dp n : Int32} (h1 : ¬ sp < 0) (h2 : ¬ dp < 0) (h3 : ¬ n < 0) (h4 : sp.toNatClampNeg + n.toNatClampNeg ≤ wN w a0) (h5 : dp.toNatClampNeg + n.toNatClampNeg ≤ wN w a1)
    (hfr : 1 ≤ R.frames) (hlo : (rest.map fun v => v.category).sum + 18 ≤ R.locals) (hdg : decode cc pc = .ok (.invokestatic ix, 3))
    (kk : ∀ (H1 : Heap) (locs1 : List Loc), Mm D aC b0 (rI w a1 (va_cpy (wI w a0) (wI w a1) sp.toNatClampNeg dp.toNatClampNeg n.toNatClampNeg)) H1 → va_S (Fb b0) s.heap H1 locs1 → W p l e R s m args below meth c H1 locs1 cells slots Q (F0 m (pc + 3) ls rest)) : W p l e R s m args below meth c H locs cells slots Q (F0 m pc ls (.int n :: .int dp :: va_rf (some a1) :: .int sp :: va_rf (some a0) :: rest)) :=
  q_cpy (t := 0) (ty := .int) (w' := rI w a1 (va_cpy (wI w a0) (wI w a1) sp.toNatClampNeg dp.toNatClampNeg n.toNatClampNeg)) X M hS hl hA rfl rfl (fun j => .int (wI w a0 j)) (fun j => .int (wI w a1 j)) k0 k1 (M.2.2.2 _ _ (M.arr (t := 0) k0)) (M.2.2.2 _ _ (M.arr (t := 0) k1)) h1 h2 h3 h4 h5 (fun _ _ => rfl) (fun j => ⟨(fun h => by cases h), (fun q h => by cases h)⟩) rfl rfl rI_oth
    ((va_copied (fun z => Value.int z) (aC 0) (aC 0) (wI w a0) (wI w a1) h4).trans (by
      show _ = arrV (aC 0) (wN w a1) (fun j => .int (va_up (wI w) a1 (va_cpy (wI w a0) (wI w a1) sp.toNatClampNeg dp.toNatClampNeg n.toNatClampNeg) a1 j))
      rw [va_up_self])) hfr hlo hdg kk
theorem q_cpyL (X : Cx D aC p s m args meth c cc own nL nm ret) (M : Mm D aC b0 w H) (hS : va_S (Fb b0) s.heap H locs) (hl : ls.size = nL) {ix a0 a1 : Nat} (hA : SA own ix) (k0 : wK w a0 = 101) (k1 : wK w a1 = 101) {sp dp n : Int32} (h1 : ¬ sp < 0) (h2 : ¬ dp < 0) (h3 : ¬ n < 0) (h4 : sp.toNatClampNeg + n.toNatClampNeg ≤ wN w a0) (h5 : dp.toNatClampNeg + n.toNatClampNeg ≤ wN w a1)
    (hfr : 1 ≤ R.frames) (hlo : (rest.map fun v => v.category).sum + 18 ≤ R.locals) (hdg : decode cc pc = .ok (.invokestatic ix, 3))
    (kk : ∀ (H1 : Heap) (locs1 : List Loc), Mm D aC b0 (rL w a1 (va_cpy (wL w a0) (wL w a1) sp.toNatClampNeg dp.toNatClampNeg n.toNatClampNeg)) H1 → va_S (Fb b0) s.heap H1 locs1 → W p l e R s m args below meth c H1 locs1 cells slots Q (F0 m (pc + 3) ls rest)) : W p l e R s m args below meth c H locs cells slots Q (F0 m pc ls (.int n :: .int dp :: va_rf (some a1) :: .int sp :: va_rf (some a0) :: rest)) :=
  q_cpy (t := 1) (ty := .long) (w' := rL w a1 (va_cpy (wL w a0) (wL w a1) sp.toNatClampNeg dp.toNatClampNeg n.toNatClampNeg)) X M hS hl hA rfl rfl (fun j => .long (wL w a0 j)) (fun j => .long (wL w a1 j)) k0 k1 (M.2.2.2 _ _ (M.arr (t := 1) k0)) (M.2.2.2 _ _ (M.arr (t := 1) k1)) h1 h2 h3 h4 h5 (fun _ _ => rfl) (fun j => ⟨(fun h => by cases h), (fun q h => by cases h)⟩) rfl rfl rL_oth
    ((va_copied (fun z => Value.long z) (aC 1) (aC 1) (wL w a0) (wL w a1) h4).trans (by
      show _ = arrV (aC 1) (wN w a1) (fun j => .long (va_up (wL w) a1 (va_cpy (wL w a0) (wL w a1) sp.toNatClampNeg dp.toNatClampNeg n.toNatClampNeg) a1 j))
      rw [va_up_self])) hfr hlo hdg kk
end QD
end
section
/-! WHAT A METHOD DOES, as a function on worlds: words, and how each is opened -/
def FU : Nat := 100000
def chk {β : Type} (w : Wd) (r : Option Nat) (kd : Nat) (f : Nat → Option β) : Option β := match r with
  | none => none
  | some a => if wK w a = kd then f a else none
theorem chk_e {β : Type} {w : Wd} {r : Option Nat} {kd : Nat} {f : Nat → Option β} {x : β} (h : chk w r kd f = some x) : ∃ a, r = some a ∧ wK w a = kd ∧ f a = some x := by
  cases r with
  | none => cases h
  | some a =>
    by_cases hk : wK w a = kd
    · refine ⟨a, rfl, hk, ?_⟩
      have : (if wK w a = kd then f a else none) = some x := h
      rwa [if_pos hk] at this
    · have : (if wK w a = kd then f a else none) = some x := h
      rw [if_neg hk] at this
      cases this
def ixc {β : Type} (w : Wd) (r : Option Nat) (kd : Nat) (i : Int32) (f : Nat → Nat → Option β) : Option β := chk w r kd (fun a => if i < 0 ∨ wN w a ≤ i.toNatClampNeg then none else f a i.toNatClampNeg)
theorem ixc_e {β : Type} {w : Wd} {r : Option Nat} {kd : Nat} {i : Int32} {f : Nat → Nat → Option β} {x : β} (h : ixc w r kd i f = some x) : ∃ a, r = some a ∧ wK w a = kd ∧ vp_in i (wN w a) ∧ f a i.toNatClampNeg = some x := by
  obtain ⟨a, h1, h2, h3⟩ := chk_e h
  by_cases hk : i < 0 ∨ wN w a ≤ i.toNatClampNeg
  · rw [if_pos hk] at h3; cases h3
  · rw [if_neg hk] at h3; exact ⟨a, h1, h2, hk, h3⟩
section DE
variable {β : Type} {w : Wd} {r : Option Nat} {kd k : Nat} {i : Int32} {x : β}
def gI (w : Wd) (r : Option Nat) (kd k : Nat) (f : Int32 → Option β) : Option β := chk w r kd (fun a => f (wI w a k))
def gL (w : Wd) (r : Option Nat) (kd k : Nat) (f : Int64 → Option β) : Option β := chk w r kd (fun a => f (wL w a k))
def gR (w : Wd) (r : Option Nat) (kd k : Nat) (f : Option Nat → Option β) : Option β := chk w r kd (fun a => f (wR w a k))
theorem gI_e {f : Int32 → Option β} (h : gI w r kd k f = some x) : ∃ a v, r = some a ∧ wK w a = kd ∧ wI w a k = v ∧ f v = some x := by
  obtain ⟨a, h1, h2, h3⟩ := chk_e h; exact ⟨a, _, h1, h2, rfl, h3⟩
theorem gL_e {f : Int64 → Option β} (h : gL w r kd k f = some x) : ∃ a v, r = some a ∧ wK w a = kd ∧ wL w a k = v ∧ f v = some x := by
  obtain ⟨a, h1, h2, h3⟩ := chk_e h; exact ⟨a, _, h1, h2, rfl, h3⟩
theorem gR_e {f : Option Nat → Option β} (h : gR w r kd k f = some x) : ∃ a v, r = some a ∧ wK w a = kd ∧ wR w a k = v ∧ f v = some x := by
  obtain ⟨a, h1, h2, h3⟩ := chk_e h; exact ⟨a, _, h1, h2, rfl, h3⟩
def gN (w : Wd) (r : Option Nat) (kd : Nat) (f : Int32 → Option β) : Option β := chk w r kd (fun a => f (nI (wN w a)))
theorem gN_e {f : Int32 → Option β} (h : gN w r kd f = some x) : ∃ a v, r = some a ∧ wK w a = kd ∧ nI (wN w a) = v ∧ f v = some x := by
  obtain ⟨a, h1, h2, h3⟩ := chk_e h; exact ⟨a, _, h1, h2, rfl, h3⟩
def aI (w : Wd) (r : Option Nat) (kd : Nat) (i : Int32) (f : Int32 → Option β) : Option β := ixc w r kd i (fun a j => f (wI w a j))
def aL (w : Wd) (r : Option Nat) (kd : Nat) (i : Int32) (f : Int64 → Option β) : Option β := ixc w r kd i (fun a j => f (wL w a j))
def aR (w : Wd) (r : Option Nat) (kd : Nat) (i : Int32) (f : Option Nat → Option β) : Option β := ixc w r kd i (fun a j => f (wR w a j))
theorem aI_e {f : Int32 → Option β} (h : aI w r kd i f = some x) : ∃ a v, r = some a ∧ wK w a = kd ∧ vp_in i (wN w a) ∧ wI w a i.toNatClampNeg = v ∧ f v = some x := by
  obtain ⟨a, h1, h2, h3, h4⟩ := ixc_e h; exact ⟨a, _, h1, h2, h3, rfl, h4⟩
theorem aL_e {f : Int64 → Option β} (h : aL w r kd i f = some x) : ∃ a v, r = some a ∧ wK w a = kd ∧ vp_in i (wN w a) ∧ wL w a i.toNatClampNeg = v ∧ f v = some x := by
  obtain ⟨a, h1, h2, h3, h4⟩ := ixc_e h; exact ⟨a, _, h1, h2, h3, rfl, h4⟩
theorem aR_e {f : Option Nat → Option β} (h : aR w r kd i f = some x) : ∃ a v, r = some a ∧ wK w a = kd ∧ vp_in i (wN w a) ∧ wR w a i.toNatClampNeg = v ∧ f v = some x := by
  obtain ⟨a, h1, h2, h3, h4⟩ := ixc_e h; exact ⟨a, _, h1, h2, h3, rfl, h4⟩
def pI (w : Wd) (r : Option Nat) (kd k : Nat) (v : Int32) (f : Wd → Option β) : Option β := chk w r kd (fun a => f (sI w a k v))
def pL (w : Wd) (r : Option Nat) (kd k : Nat) (v : Int64) (f : Wd → Option β) : Option β := chk w r kd (fun a => f (sL w a k v))
def pR (w : Wd) (r : Option Nat) (kd k : Nat) (v : Option Nat) (f : Wd → Option β) : Option β := chk w r kd (fun a => f (sR w a k v))
theorem pI_e {v : Int32} {f : Wd → Option β} (h : pI w r kd k v f = some x) : ∃ a w', r = some a ∧ wK w a = kd ∧ sI w a k v = w' ∧ f w' = some x := by
  obtain ⟨a, h1, h2, h3⟩ := chk_e h; exact ⟨a, _, h1, h2, rfl, h3⟩
theorem pL_e {v : Int64} {f : Wd → Option β} (h : pL w r kd k v f = some x) : ∃ a w', r = some a ∧ wK w a = kd ∧ sL w a k v = w' ∧ f w' = some x := by
  obtain ⟨a, h1, h2, h3⟩ := chk_e h; exact ⟨a, _, h1, h2, rfl, h3⟩
theorem pR_e {v : Option Nat} {f : Wd → Option β} (h : pR w r kd k v f = some x) : ∃ a w', r = some a ∧ wK w a = kd ∧ sR w a k v = w' ∧ f w' = some x := by
  obtain ⟨a, h1, h2, h3⟩ := chk_e h; exact ⟨a, _, h1, h2, rfl, h3⟩
def tI (w : Wd) (r : Option Nat) (kd : Nat) (i v : Int32) (f : Wd → Option β) : Option β := ixc w r kd i (fun a j => f (sI w a j v))
def tL (w : Wd) (r : Option Nat) (kd : Nat) (i : Int32) (v : Int64) (f : Wd → Option β) : Option β := ixc w r kd i (fun a j => f (sL w a j v))
def tZ (w : Wd) (r : Option Nat) (kd : Nat) (i v : Int32) (f : Wd → Option β) : Option β := ixc w r kd i (fun a j => if v = 0 ∨ v = 1 then f (sI w a j v) else none)
def okv (w : Wd) (v : Option Nat) (ke : Nat) (y : Option β) : Option β := match v with
  | none => y
  | some b => if wK w b = ke then y else none
def tR (w : Wd) (r : Option Nat) (kd : Nat) (i : Int32) (v : Option Nat) (ke : Nat) (f : Wd → Option β) : Option β := ixc w r kd i (fun a j => okv w v ke (f (sR w a j v)))
theorem tI_e {v : Int32} {f : Wd → Option β} (h : tI w r kd i v f = some x) : ∃ a w', r = some a ∧ wK w a = kd ∧ vp_in i (wN w a) ∧ sI w a i.toNatClampNeg v = w' ∧ f w' = some x := by
  obtain ⟨a, h1, h2, h3, h4⟩ := ixc_e h; exact ⟨a, _, h1, h2, h3, rfl, h4⟩
theorem tL_e {v : Int64} {f : Wd → Option β} (h : tL w r kd i v f = some x) : ∃ a w', r = some a ∧ wK w a = kd ∧ vp_in i (wN w a) ∧ sL w a i.toNatClampNeg v = w' ∧ f w' = some x := by
  obtain ⟨a, h1, h2, h3, h4⟩ := ixc_e h; exact ⟨a, _, h1, h2, h3, rfl, h4⟩
theorem tZ_e {v : Int32} {f : Wd → Option β} (h : tZ w r kd i v f = some x) : ∃ a w', r = some a ∧ wK w a = kd ∧ vp_in i (wN w a) ∧ (v = 0 ∨ v = 1) ∧ sI w a i.toNatClampNeg v = w' ∧ f w' = some x := by
  obtain ⟨a, h1, h2, h3, h4⟩ := ixc_e h
  by_cases hv : v = 0 ∨ v = 1
  · rw [if_pos hv] at h4; exact ⟨a, _, h1, h2, h3, hv, rfl, h4⟩
  · rw [if_neg hv] at h4; cases h4
theorem tR_e {v : Option Nat} {ke : Nat} {f : Wd → Option β} (h : tR w r kd i v ke f = some x) : ∃ a w', r = some a ∧ wK w a = kd ∧ vp_in i (wN w a) ∧ okr w v ke ∧ sR w a i.toNatClampNeg v = w' ∧ f w' = some x := by
  obtain ⟨a, h1, h2, h3, h4⟩ := ixc_e h
  cases v with
  | none => exact ⟨a, _, h1, h2, h3, Or.inl rfl, rfl, h4⟩
  | some b =>
    by_cases hv : wK w b = ke
    · have h5 : (if wK w b = ke then f (sR w a i.toNatClampNeg (some b)) else none) = some x := h4
      rw [if_pos hv] at h5
      exact ⟨a, _, h1, h2, h3, Or.inr ⟨b, rfl, hv⟩, rfl, h5⟩
    · have h5 : (if wK w b = ke then f (sR w a i.toNatClampNeg (some b)) else none) = some x := h4
      rw [if_neg hv] at h5
      cases h5
def pZ (w : Wd) (r : Option Nat) (kd k : Nat) (v : Int32) (f : Wd → Option β) : Option β := chk w r kd (fun a => if v = 0 ∨ v = 1 then f (sI w a k v) else none)
theorem pZ_e {v : Int32} {f : Wd → Option β} (h : pZ w r kd k v f = some x) : ∃ a w', r = some a ∧ wK w a = kd ∧ (v = 0 ∨ v = 1) ∧ sI w a k v = w' ∧ f w' = some x := by
  obtain ⟨a, h1, h2, h3⟩ := chk_e h
  by_cases hv : v = 0 ∨ v = 1
  · rw [if_pos hv] at h3; exact ⟨a, _, h1, h2, hv, rfl, h3⟩
  · rw [if_neg hv] at h3; cases h3
def bnd {α : Type} (y : Option (α × Wd)) (f : α → Wd → Option β) : Option β := match y with
  | none => none
  | some q => f q.1 q.2
theorem bnd_e {α : Type} {y : Option (α × Wd)} {f : α → Wd → Option β} (h : bnd y f = some x) : ∃ v w1, y = some (v, w1) ∧ f v w1 = some x := by
  cases y with
  | none => cases h
  | some q => exact ⟨q.1, q.2, rfl, h⟩
def nwO (w : Wd) (kd : Nat) (f : Wd → Option β) : Option β := f (newC w kd 0)
theorem nwO_e {f : Wd → Option β} (h : nwO w kd f = some x) : ∃ w', newC w kd 0 = w' ∧ f w' = some x := ⟨_, rfl, h⟩
def nwA (w : Wd) (kd : Nat) (n : Int32) (bd : Nat) (f : Wd → Option β) : Option β := if n < 0 ∨ bd < n.toNatClampNeg then none else f (newC w kd n.toNatClampNeg)
theorem nwA_e {n : Int32} {bd : Nat} {f : Wd → Option β} (h : nwA w kd n bd f = some x) : ∃ w', ¬ n < 0 ∧ n.toNatClampNeg ≤ bd ∧ newC w kd n.toNatClampNeg = w' ∧ f w' = some x := by
  unfold nwA at h
  by_cases hv : n < 0 ∨ bd < n.toNatClampNeg
  · rw [if_pos hv] at h; cases h
  · rw [if_neg hv] at h; exact ⟨_, fun z => hv (Or.inl z), Nat.not_lt.mp fun z => hv (Or.inr z), rfl, h⟩
def nz (y : Int32) (z : Option β) : Option β := if y = 0 then none else z
theorem nz_e {y : Int32} {z : Option β} (h : nz y z = some x) : ¬ y = 0 ∧ z = some x := by
  unfold nz at h
  by_cases hv : y = 0
  · rw [if_pos hv] at h; cases h
  · rw [if_neg hv] at h; exact ⟨hv, h⟩
end DE
def retZ (v : Int32) (w : Wd) : Option (Int32 × Wd) := if v = 0 ∨ v = 1 then some (v, w) else none
theorem retZ_e {v : Int32} {w : Wd} {x : Int32 × Wd} (h : retZ v w = some x) : (v = 0 ∨ v = 1) ∧ (v, w) = x := by
  unfold retZ at h
  by_cases hv : v = 0 ∨ v = 1
  · rw [if_pos hv] at h; exact ⟨hv, Option.some.inj h⟩
  · rw [if_neg hv] at h; cases h
def cpI {β : Type} (w : Wd) (r0 : Option Nat) (sp : Int32) (r1 : Option Nat) (dp n : Int32) (f : Wd → Option β) : Option β := chk w r0 100 (fun a0 => chk w r1 100 (fun a1 => if sp < 0 ∨ dp < 0 ∨ n < 0 ∨ wN w a0 < sp.toNatClampNeg + n.toNatClampNeg ∨ wN w a1 < dp.toNatClampNeg + n.toNatClampNeg then none else f (rI w a1 (va_cpy (wI w a0) (wI w a1) sp.toNatClampNeg dp.toNatClampNeg n.toNatClampNeg))))
def cpL {β : Type} (w : Wd) (r0 : Option Nat) (sp : Int32) (r1 : Option Nat) (dp n : Int32) (f : Wd → Option β) : Option β := chk w r0 101 (fun a0 => chk w r1 101 (fun a1 => if sp < 0 ∨ dp < 0 ∨ n < 0 ∨ wN w a0 < sp.toNatClampNeg + n.toNatClampNeg ∨ wN w a1 < dp.toNatClampNeg + n.toNatClampNeg then none else f (rL w a1 (va_cpy (wL w a0) (wL w a1) sp.toNatClampNeg dp.toNatClampNeg n.toNatClampNeg))))
theorem cpI_e {β : Type} {w : Wd} {r0 r1 : Option Nat} {sp dp n : Int32} {f : Wd → Option β} {x : β} (h : cpI w r0 sp r1 dp n f = some x) : ∃ a0 a1 w', r0 = some a0 ∧ r1 = some a1 ∧ wK w a0 = 100 ∧ wK w a1 = 100 ∧ ¬ sp < 0 ∧ ¬ dp < 0 ∧ ¬ n < 0 ∧ sp.toNatClampNeg + n.toNatClampNeg ≤ wN w a0 ∧ dp.toNatClampNeg + n.toNatClampNeg ≤ wN w a1 ∧ rI w a1 (va_cpy (wI w a0) (wI w a1) sp.toNatClampNeg dp.toNatClampNeg n.toNatClampNeg) = w' ∧ f w' = some x := by
  obtain ⟨a0, h1, h2, h3⟩ := chk_e h
  obtain ⟨a1, h4, h5, h6⟩ := chk_e h3
  by_cases hv : sp < 0 ∨ dp < 0 ∨ n < 0 ∨ wN w a0 < sp.toNatClampNeg + n.toNatClampNeg ∨ wN w a1 < dp.toNatClampNeg + n.toNatClampNeg
  · rw [if_pos hv] at h6; cases h6
  · rw [if_neg hv] at h6
    exact ⟨a0, a1, _, h1, h4, h2, h5, fun z => hv (Or.inl z), fun z => hv (Or.inr (Or.inl z)), fun z => hv (Or.inr (Or.inr (Or.inl z))), Nat.not_lt.mp fun z => hv (Or.inr (Or.inr (Or.inr (Or.inl z)))), Nat.not_lt.mp fun z => hv (Or.inr (Or.inr (Or.inr (Or.inr z)))), rfl, h6⟩
theorem cpL_e {β : Type} {w : Wd} {r0 r1 : Option Nat} {sp dp n : Int32} {f : Wd → Option β} {x : β} (h : cpL w r0 sp r1 dp n f = some x) : ∃ a0 a1 w', r0 = some a0 ∧ r1 = some a1 ∧ wK w a0 = 101 ∧ wK w a1 = 101 ∧ ¬ sp < 0 ∧ ¬ dp < 0 ∧ ¬ n < 0 ∧ sp.toNatClampNeg + n.toNatClampNeg ≤ wN w a0 ∧ dp.toNatClampNeg + n.toNatClampNeg ≤ wN w a1 ∧ rL w a1 (va_cpy (wL w a0) (wL w a1) sp.toNatClampNeg dp.toNatClampNeg n.toNatClampNeg) = w' ∧ f w' = some x := by
  obtain ⟨a0, h1, h2, h3⟩ := chk_e h
  obtain ⟨a1, h4, h5, h6⟩ := chk_e h3
  by_cases hv : sp < 0 ∨ dp < 0 ∨ n < 0 ∨ wN w a0 < sp.toNatClampNeg + n.toNatClampNeg ∨ wN w a1 < dp.toNatClampNeg + n.toNatClampNeg
  · rw [if_pos hv] at h6; cases h6
  · rw [if_neg hv] at h6
    exact ⟨a0, a1, _, h1, h4, h2, h5, fun z => hv (Or.inl z), fun z => hv (Or.inr (Or.inl z)), fun z => hv (Or.inr (Or.inr (Or.inl z))), Nat.not_lt.mp fun z => hv (Or.inr (Or.inr (Or.inr (Or.inl z)))), Nat.not_lt.mp fun z => hv (Or.inr (Or.inr (Or.inr (Or.inr z)))), rfl, h6⟩
def mx (x y : Int32) : Int32 := if x < y then y else x
theorem cat1 (r : Option Nat) : (va_rf r).category = 1 := by cases r <;> rfl
/-- at a place of a method's code: if the function answers there, the machine comes to the end Q -/
def BW {β : Type} (l : Launch) (D : va_G) (aC : Nat → ClassId) (b0 : Nat) (p : Program) (e : Env) (R : Room) (s : State) (m : MethodId) (args : Array Value) (below : List Frame) (meth : Method) (c : Code) (Q : State → Prop) (res : β) (mc ms kc ks : Nat) (f : Option β) (w : Wd) (pc nL : Nat) (lv : List (Nat × Value)) (st : List Value) : Prop :=
  ∀ (H : Heap) (locs : List Loc) (cells slots : Nat) (ls : Array Slot), f = some res → Mm D aC b0 w H → va_S (Fb b0) s.heap H locs → cells + kc ≤ mc → slots + ks ≤ ms → lv_has ls nL lv → W p l e R s m args below meth c H locs cells slots Q (F0 m pc ls st)
/-- the end: what the function answered -/
abbrev Qe (D : va_G) (aC : Nat → ClassId) (b0 : Nat) (below : List Frame) (args : Array Value) (s : State) (mc ms : Nat) (ov : Option Value) (w' : Wd) : State → Prop := MQ below (Qr D aC b0 ov w') args s mc ms (Fb b0)
theorem tsw {x : Int32} {lo hi : Int} (h : ∀ k : Int, lo ≤ k → k ≤ hi → x.toInt ≠ k) : x.toInt < lo ∨ hi < x.toInt := by
  by_cases h1 : x.toInt < lo
  · exact Or.inl h1
  · by_cases h2 : hi < x.toInt
    · exact Or.inr h2
    · exact absurd rfl (h x.toInt (by omega) (by omega))
theorem ne_i {x : Int32} {k : Int32} (h : ¬ x = k) : x.toInt ≠ k.toInt := fun z => h (Int32.toInt_inj.mp z)
end
section
theorem flX2_9 : FL RX2 9 2 0 0 true := ⟨RX2, TX2, 15, tyX2, rfl, inlX2, tyX2_ok, nmX2, by decide, rfl, List.mem_of_getElem? (i := 228) (by decide +kernel), rfl, vo_i, rfl, (fun _ => rfl), by decide⟩
theorem mlX2_21 : ML RX2 21 yX2_isBetweenServers cX2_isBetweenServers 1 (some .boolean) 0 := ⟨List.mem_of_getElem? (i := 658) (by decide +kernel), List.mem_of_getElem? (i := 661) (by decide +kernel), List.mem_of_getElem? (i := 208) (by decide +kernel), by decide +kernel⟩
theorem gm_659 : Cond.instanceMethod yX2_isBetweenServers ∈ Gw := List.mem_of_getElem? (i := 659) (by decide +kernel)
theorem gm_660 : Cond.selects RX2 yX2_isBetweenServers yX2_isBetweenServers ∈ Gw := List.mem_of_getElem? (i := 660) (by decide +kernel)
theorem flX2_44 : FL RX2 44 2 5 0 false := ⟨RX2, TX2, 15, tyX2, rfl, inlX2, tyX2_ok, nmX2, by decide, rfl, List.mem_of_getElem? (i := 668) (by decide +kernel), rfl, vo_i, rfl, (fun h => by cases h), by decide⟩
theorem flX2_41 : FL RX2 41 2 6 0 false := ⟨RX2, TX2, 15, tyX2, rfl, inlX2, tyX2_ok, nmX2, by decide, rfl, List.mem_of_getElem? (i := 667) (by decide +kernel), rfl, vo_i, rfl, (fun h => by cases h), by decide⟩
theorem flX2_38 : FL RX2 38 2 7 0 false := ⟨RX2, TX2, 15, tyX2, rfl, inlX2, tyX2_ok, nmX2, by decide, rfl, List.mem_of_getElem? (i := 666) (by decide +kernel), rfl, vo_i, rfl, (fun h => by cases h), by decide⟩
theorem flX3_21 : FL RX3 21 3 1 0 false := ⟨RX3, TX3, 2, tyX3, rfl, inlX3, tyX3_ok, nmX3, by decide, rfl, List.mem_of_getElem? (i := 244) (by decide +kernel), rfl, vo_i, rfl, (fun h => by cases h), by decide⟩
theorem flX3_15 : FL RX3 15 3 0 2 true := ⟨RX3, TX3, 2, tyX3, rfl, inlX3, tyX3_ok, nmX3, by decide, rfl, List.mem_of_getElem? (i := 57) (by decide +kernel), rfl, vo_a _, rfl, (fun _ => rfl), by decide⟩
theorem flX4_22 : FL RX4 22 4 2 2 true := ⟨RX4, TX4, 6, tyX4, rfl, inlX4, tyX4_ok, nmX4, by decide, rfl, List.mem_of_getElem? (i := 37) (by decide +kernel), rfl, vo_a _, rfl, (fun _ => rfl), by decide⟩
theorem flX0_34 : FL RX0 34 0 0 0 false := ⟨RX0, TX0, 11, tyX0, rfl, inlX0, tyX0_ok, nmX0, by decide, rfl, List.mem_of_getElem? (i := 74) (by decide +kernel), rfl, vo_i, rfl, (fun h => by cases h), by decide⟩
theorem flX0_38 : FL RX0 38 0 1 0 false := ⟨RX0, TX0, 11, tyX0, rfl, inlX0, tyX0_ok, nmX0, by decide, rfl, List.mem_of_getElem? (i := 75) (by decide +kernel), rfl, vo_i, rfl, (fun h => by cases h), by decide⟩
theorem flX0_41 : FL RX0 41 0 2 0 false := ⟨RX0, TX0, 11, tyX0, rfl, inlX0, tyX0_ok, nmX0, by decide, rfl, List.mem_of_getElem? (i := 76) (by decide +kernel), rfl, vo_i, rfl, (fun h => by cases h), by decide⟩
theorem flX0_44 : FL RX0 44 0 3 0 false := ⟨RX0, TX0, 11, tyX0, rfl, inlX0, tyX0_ok, nmX0, by decide, rfl, List.mem_of_getElem? (i := 77) (by decide +kernel), rfl, vo_i, rfl, (fun h => by cases h), by decide⟩
theorem flX0_9 : FL RX0 9 0 4 2 true := ⟨RX0, TX0, 11, tyX0, rfl, inlX0, tyX0_ok, nmX0, by decide, rfl, List.mem_of_getElem? (i := 62) (by decide +kernel), rfl, vo_a _, rfl, (fun _ => rfl), by decide⟩
theorem saX0_47 : SA RX0 47 := ⟨List.mem_of_getElem? (i := 78) (by decide +kernel), List.mem_of_getElem? (i := 79) (by decide +kernel), List.mem_of_getElem? (i := 80) (by decide +kernel), List.mem_of_getElem? (i := 81) (by decide +kernel)⟩
theorem flX0_15 : FL RX0 15 0 5 2 true := ⟨RX0, TX0, 11, tyX0, rfl, inlX0, tyX0_ok, nmX0, by decide, rfl, List.mem_of_getElem? (i := 64) (by decide +kernel), rfl, vo_a _, rfl, (fun _ => rfl), by decide⟩
theorem flX0_19 : FL RX0 19 0 6 2 true := ⟨RX0, TX0, 11, tyX0, rfl, inlX0, tyX0_ok, nmX0, by decide, rfl, List.mem_of_getElem? (i := 65) (by decide +kernel), rfl, vo_a _, rfl, (fun _ => rfl), by decide⟩
theorem flX0_22 : FL RX0 22 0 7 2 true := ⟨RX0, TX0, 11, tyX0, rfl, inlX0, tyX0_ok, nmX0, by decide, rfl, List.mem_of_getElem? (i := 66) (by decide +kernel), rfl, vo_a _, rfl, (fun _ => rfl), by decide⟩
theorem flX0_25 : FL RX0 25 0 8 2 true := ⟨RX0, TX0, 11, tyX0, rfl, inlX0, tyX0_ok, nmX0, by decide, rfl, List.mem_of_getElem? (i := 67) (by decide +kernel), rfl, vo_a _, rfl, (fun _ => rfl), by decide⟩
theorem flX0_28 : FL RX0 28 0 9 2 true := ⟨RX0, TX0, 11, tyX0, rfl, inlX0, tyX0_ok, nmX0, by decide, rfl, List.mem_of_getElem? (i := 68) (by decide +kernel), rfl, vo_a _, rfl, (fun _ => rfl), by decide⟩
theorem flX0_31 : FL RX0 31 0 10 2 true := ⟨RX0, TX0, 11, tyX0, rfl, inlX0, tyX0_ok, nmX0, by decide, rfl, List.mem_of_getElem? (i := 69) (by decide +kernel), rfl, vo_a _, rfl, (fun _ => rfl), by decide⟩
abbrev rX2_isBetweenServers : Room := { frames := 0, cells := 0, slots := 0, locals := 0 }
def f_X2_isBetweenServers (o : Nat) (w : Wd) : Option (Int32 × Wd) := gI w (some o) 3 0 (fun v2 => if v2 = 3 then (retZ 1 w) else (gI w (some o) 3 0 (fun v9 => if v9 = 4 then (retZ 1 w) else (retZ 0 w))))
set_option maxHeartbeats 4000000 in
set_option maxRecDepth 100000 in
theorem e_X2_isBetweenServers {l : Launch} {D : va_G} {aC : Nat → ClassId} {b0 : Nat} {p : Program} {e : Env} {s : State} {m : MethodId} {args : Array Value} {below : List Frame} {meth : Method} {c : Code} (X : Cx D aC p s m args meth c cX2_isBetweenServers RX2 1 "isBetweenServers" (some .boolean)) {res : (Int32 × Wd)} (o : Nat) (w : Wd) : BW l D aC b0 p e rX2_isBetweenServers s m args below meth c (Qe D aC b0 below args s 0 0 (some (.int res.1)) res.2) res 0 0 0 0 (f_X2_isBetweenServers o w) w 0 1 [(0, va_rf (some o))] [] := by
  intro H locs cells slots ls hf M hS hc hs hl
  unfold f_X2_isBetweenServers at hf
  refine q_aload_n X dX2_isBetweenServers_0 rfl (lv_at hl 0 rfl) ?_
  have ho := gI_e hf
  clear hf
  obtain ⟨a1, v2, e3, k4, q5, hf⟩ := ho
  cases e3
  refine q_get X M flX2_9 k4 (congrArg Value.int q5) dX2_isBetweenServers_1 ?_
  refine lv_iconst (v := 3) X.1 X.2.1 dX2_isBetweenServers_4 (by decide) ?_
  refine lv_icmp_eq (tgt := 16) X.1 X.2.1 dX2_isBetweenServers_5 (by decide) (fun c6 => ?_) (fun c6 => ?_)
  · rw [if_pos c6] at hf
    refine lv_iconst (v := 1) X.1 X.2.1 dX2_isBetweenServers_16 (by decide) ?_
    refine lv_goto (tgt := 21) X.1 X.2.1 dX2_isBetweenServers_17 (by decide) ?_
    have ho := retZ_e hf
    clear hf
    obtain ⟨z7, rfl⟩ := ho
    exact q_zret X M hS (by omega) (by omega) z7 dX2_isBetweenServers_21
  · rw [if_neg c6] at hf
    refine q_aload_n X dX2_isBetweenServers_8 rfl (lv_at hl 0 rfl) ?_
    have ho := gI_e hf
    clear hf
    obtain ⟨a8, v9, e10, k11, q12, hf⟩ := ho
    cases e10
    refine q_get X M flX2_9 k11 (congrArg Value.int q12) dX2_isBetweenServers_9 ?_
    refine lv_iconst (v := 4) X.1 X.2.1 dX2_isBetweenServers_12 (by decide) ?_
    refine lv_icmp_ne (tgt := 20) X.1 X.2.1 dX2_isBetweenServers_13 (by decide) (fun c13 => ?_) (fun c13 => ?_)
    · rw [if_neg c13] at hf
      refine lv_iconst (v := 0) X.1 X.2.1 dX2_isBetweenServers_20 (by decide) ?_
      have ho := retZ_e hf
      clear hf
      obtain ⟨z14, rfl⟩ := ho
      exact q_zret X M hS (by omega) (by omega) z14 dX2_isBetweenServers_21
    · rw [if_pos c13] at hf
      refine lv_iconst (v := 1) X.1 X.2.1 dX2_isBetweenServers_16 (by decide) ?_
      refine lv_goto (tgt := 21) X.1 X.2.1 dX2_isBetweenServers_17 (by decide) ?_
      have ho := retZ_e hf
      clear hf
      obtain ⟨z15, rfl⟩ := ho
      exact q_zret X M hS (by omega) (by omega) z15 dX2_isBetweenServers_21
theorem m_X2_isBetweenServers {l : Launch} {D : va_G} {aC : Nat → ClassId} {b0 : Nat} {w : Wd} (o : Nat) (v : Int32) (w' : Wd) (hf : f_X2_isBetweenServers o w = some (v, w')) : Ct l D aC b0 yX2_isBetweenServers (Cond.code yX2_isBetweenServers cX2_isBetweenServers 1 (some .boolean) :: Gw) rX2_isBetweenServers [va_rf (some o)] w (some (.int v)) w' :=
  q_met (by decide) (Nat.le_of_ble_eq_true rfl) (fun p e s m below meth c X M ls hl => e_X2_isBetweenServers X (res := (v, w')) o w s.heap [] 0 0 ls hf M va_S.rf (by decide) (by decide) hl)
abbrev rX2_fourthPart : Room := { frames := 1, cells := 0, slots := 0, locals := 20 }
def f_X2_fourthPart (o : Nat) (w : Wd) : Option (Int32 × Wd) := chk w (some o) 3 (fun a4 => bnd (f_X2_isBetweenServers a4 w) (fun v1 w2 => if v1 = 0 then (gI w2 (some o) 3 0 (fun v9 => if v9 = 5 then (gI w2 (some o) 3 6 (fun v20 => some (v20, w2))) else (gI w2 (some o) 3 5 (fun v15 => some (v15, w2))))) else (gI w2 (some o) 3 7 (fun v25 => some (v25, w2)))))
set_option maxHeartbeats 4000000 in
set_option maxRecDepth 100000 in
theorem e_X2_fourthPart {l : Launch} {D : va_G} {aC : Nat → ClassId} {b0 : Nat} {p : Program} {e : Env} {s : State} {m : MethodId} {args : Array Value} {below : List Frame} {meth : Method} {c : Code} (X : Cx D aC p s m args meth c cX2_fourthPart RX2 1 "fourthPart" (some .int)) {res : (Int32 × Wd)} (o : Nat) (w : Wd) : BW l D aC b0 p e rX2_fourthPart s m args below meth c (Qe D aC b0 below args s 0 0 (some (.int res.1)) res.2) res 0 0 0 0 (f_X2_fourthPart o w) w 0 1 [(0, va_rf (some o))] [] := by
  intro H locs cells slots ls hf M hS hc hs hl
  unfold f_X2_fourthPart at hf
  refine q_aload_n X dX2_fourthPart_0 rfl (lv_at hl 0 rfl) ?_
  have ho := chk_e hf
  clear hf
  obtain ⟨a4, e5, k6, hf⟩ := ho
  cases e5
  have ho := bnd_e hf
  clear hf
  obtain ⟨v1, w2, q3, hf⟩ := ho
  refine q_cV X M hS hl.1 (ci := 2) (r := (RX2, TX2, 15)) (As := []) (m_X2_isBetweenServers o _ _ q3) mlX2_21 gm_659 gm_660 rfl (by decide) k6 rfl ⟨(Nat.le_of_ble_eq_true rfl), (Nat.le_of_ble_eq_true rfl)⟩ (rest := []) rfl (Nat.le_of_ble_eq_true rfl) (mc := 0) (ms := 0) (MC := 0) (MS := 0) rfl rfl rfl rfl (by omega) (by omega) dX2_fourthPart_1 (st2 := [.int v1]) rfl (fun H locs M hS => ?_)
  refine lv_if_eq (tgt := 12) X.1 X.2.1 dX2_fourthPart_4 (by decide) (fun c7 => ?_) (fun c7 => ?_)
  · rw [if_pos c7] at hf
    refine q_aload_n X dX2_fourthPart_12 rfl (lv_at hl 0 rfl) ?_
    have ho := gI_e hf
    clear hf
    obtain ⟨a8, v9, e10, k11, q12, hf⟩ := ho
    cases e10
    refine q_get X M flX2_9 k11 (congrArg Value.int q12) dX2_fourthPart_13 ?_
    refine lv_iconst (v := 5) X.1 X.2.1 dX2_fourthPart_16 (by decide) ?_
    refine lv_icmp_ne (tgt := 27) X.1 X.2.1 dX2_fourthPart_17 (by decide) (fun c13 => ?_) (fun c13 => ?_)
    · rw [if_neg c13] at hf
      refine q_aload_n X dX2_fourthPart_27 rfl (lv_at hl 0 rfl) ?_
      have ho := gI_e hf
      clear hf
      obtain ⟨a14, v15, e16, k17, q18, hf⟩ := ho
      cases e16
      refine q_get X M flX2_44 k17 (congrArg Value.int q18) dX2_fourthPart_28 ?_
      obtain rfl := Option.some.inj hf
      exact q_iret X M hS (by omega) (by omega) dX2_fourthPart_31
    · rw [if_pos c13] at hf
      refine q_aload_n X dX2_fourthPart_20 rfl (lv_at hl 0 rfl) ?_
      have ho := gI_e hf
      clear hf
      obtain ⟨a19, v20, e21, k22, q23, hf⟩ := ho
      cases e21
      refine q_get X M flX2_41 k22 (congrArg Value.int q23) dX2_fourthPart_21 ?_
      refine lv_goto (tgt := 31) X.1 X.2.1 dX2_fourthPart_24 (by decide) ?_
      obtain rfl := Option.some.inj hf
      exact q_iret X M hS (by omega) (by omega) dX2_fourthPart_31
  · rw [if_neg c7] at hf
    refine q_aload_n X dX2_fourthPart_7 rfl (lv_at hl 0 rfl) ?_
    have ho := gI_e hf
    clear hf
    obtain ⟨a24, v25, e26, k27, q28, hf⟩ := ho
    cases e26
    refine q_get X M flX2_38 k27 (congrArg Value.int q28) dX2_fourthPart_8 ?_
    obtain rfl := Option.some.inj hf
    exact q_iret X M hS (by omega) (by omega) dX2_fourthPart_11
theorem m_X2_fourthPart {l : Launch} {D : va_G} {aC : Nat → ClassId} {b0 : Nat} {w : Wd} (o : Nat) (v : Int32) (w' : Wd) (hf : f_X2_fourthPart o w = some (v, w')) : Ct l D aC b0 yX2_fourthPart (Cond.code yX2_fourthPart cX2_fourthPart 1 (some .int) :: Gw) rX2_fourthPart [va_rf (some o)] w (some (.int v)) w' :=
  q_met (by decide) (Nat.le_of_ble_eq_true rfl) (fun p e s m below meth c X M ls hl => e_X2_fourthPart X (res := (v, w')) o w s.heap [] 0 0 ls hf M va_S.rf (by decide) (by decide) hl)
abbrev rX3_at : Room := { frames := 0, cells := 0, slots := 0, locals := 0 }
def f_X3_at (o : Nat) (x1 : Int32) (w : Wd) : Option ((Option Nat) × Wd) := if x1 < 0 then (some (none, w)) else (gI w (some o) 4 1 (fun v3 => if v3 ≤ x1 then (some (none, w)) else (gR w (some o) 4 0 (fun v9 => aR w v9 105 x1 (fun v14 => some (v14, w))))))
set_option maxHeartbeats 4000000 in
set_option maxRecDepth 100000 in
theorem e_X3_at {l : Launch} {D : va_G} {aC : Nat → ClassId} {b0 : Nat} {p : Program} {e : Env} {s : State} {m : MethodId} {args : Array Value} {below : List Frame} {meth : Method} {c : Code} (X : Cx D aC p s m args meth c cX3_at RX3 2 "at" (some (.object "OnceCalls$Letter"))) {res : ((Option Nat) × Wd)} (o : Nat) (x1 : Int32) (w : Wd) : BW l D aC b0 p e rX3_at s m args below meth c (Qe D aC b0 below args s 0 0 (some (va_rf res.1)) res.2) res 0 0 0 0 (f_X3_at o x1 w) w 0 2 [(0, va_rf (some o)), (1, .int x1)] [] := by
  intro H locs cells slots ls hf M hS hc hs hl
  unfold f_X3_at at hf
  refine lv_iload_n X.1 X.2.1 dX3_at_0 rfl (lv_at hl 1 rfl) ?_
  refine lv_if_lt (tgt := 21) X.1 X.2.1 dX3_at_1 (by decide) (fun c1 => ?_) (fun c1 => ?_)
  · rw [if_pos c1] at hf
    refine q_null X dX3_at_21 ?_
    obtain rfl := Option.some.inj hf
    exact q_aret X M hS (by omega) (by omega) dX3_at_22
  · rw [if_neg c1] at hf
    refine lv_iload_n X.1 X.2.1 dX3_at_4 rfl (lv_at hl 1 rfl) ?_
    refine q_aload_n X dX3_at_5 rfl (lv_at hl 0 rfl) ?_
    have ho := gI_e hf
    clear hf
    obtain ⟨a2, v3, e4, k5, q6, hf⟩ := ho
    cases e4
    refine q_get X M flX3_21 k5 (congrArg Value.int q6) dX3_at_6 ?_
    refine lv_icmp_ge (tgt := 21) X.1 X.2.1 dX3_at_9 (by decide) (fun c7 => ?_) (fun c7 => ?_)
    · rw [if_pos c7] at hf
      refine q_null X dX3_at_21 ?_
      obtain rfl := Option.some.inj hf
      exact q_aret X M hS (by omega) (by omega) dX3_at_22
    · rw [if_neg c7] at hf
      refine q_aload_n X dX3_at_12 rfl (lv_at hl 0 rfl) ?_
      have ho := gR_e hf
      clear hf
      obtain ⟨a8, v9, e10, k11, q12, hf⟩ := ho
      cases e10
      refine q_get X M flX3_15 k11 (congrArg va_rf q12) dX3_at_13 ?_
      refine lv_iload_n X.1 X.2.1 dX3_at_16 rfl (lv_at hl 1 rfl) ?_
      have ho := aR_e hf
      clear hf
      obtain ⟨a13, v14, e15, k16, i17, q18, hf⟩ := ho
      cases e15
      refine q_aald X M (Or.inr (Or.inr (Or.inl ⟨rfl, rfl, rfl⟩))) k16 i17 dX3_at_17 ?_
      rw [q18]
      refine lv_goto (tgt := 22) X.1 X.2.1 dX3_at_18 (by decide) ?_
      obtain rfl := Option.some.inj hf
      exact q_aret X M hS (by omega) (by omega) dX3_at_22
theorem m_X3_at {l : Launch} {D : va_G} {aC : Nat → ClassId} {b0 : Nat} {w : Wd} (o : Nat) (x1 : Int32) (v : (Option Nat)) (w' : Wd) (hf : f_X3_at o x1 w = some (v, w')) : Ct l D aC b0 yX3_at (Cond.code yX3_at cX3_at 2 (some (.object "OnceCalls$Letter")) :: Gw) rX3_at [va_rf (some o), .int x1] w (some (va_rf v)) w' :=
  q_met (by decide) (Nat.le_of_ble_eq_true rfl) (fun p e s m below meth c X M ls hl => e_X3_at X (res := (v, w')) o x1 w s.heap [] 0 0 ls hf M va_S.rf (by decide) (by decide) hl)
abbrev rX3_append : Room := { frames := 0, cells := 0, slots := 0, locals := 0 }
def f_X3_append (o : Nat) (x1 : Option Nat) (w : Wd) : Option (Int32 × Wd) := gI w (some o) 4 1 (fun v2 => gR w (some o) 4 0 (fun v7 => gN w v7 105 (fun v12 => if v2 < v12 then (gR w (some o) 4 0 (fun v18 => gI w (some o) 4 1 (fun v23 => tR w v18 105 v23 x1 3 (fun w28 => gI w28 (some o) 4 1 (fun v35 => pI w28 (some o) 4 1 (v35 + 1) (fun w40 => retZ 1 w40)))))) else (retZ 0 w))))
set_option maxHeartbeats 4000000 in
set_option maxRecDepth 100000 in
theorem e_X3_append {l : Launch} {D : va_G} {aC : Nat → ClassId} {b0 : Nat} {p : Program} {e : Env} {s : State} {m : MethodId} {args : Array Value} {below : List Frame} {meth : Method} {c : Code} (X : Cx D aC p s m args meth c cX3_append RX3 2 "append" (some .boolean)) {res : (Int32 × Wd)} (o : Nat) (x1 : Option Nat) (w : Wd) : BW l D aC b0 p e rX3_append s m args below meth c (Qe D aC b0 below args s 0 0 (some (.int res.1)) res.2) res 0 0 0 0 (f_X3_append o x1 w) w 0 2 [(0, va_rf (some o)), (1, va_rf x1)] [] := by
  intro H locs cells slots ls hf M hS hc hs hl
  unfold f_X3_append at hf
  refine q_aload_n X dX3_append_0 rfl (lv_at hl 0 rfl) ?_
  have ho := gI_e hf
  clear hf
  obtain ⟨a1, v2, e3, k4, q5, hf⟩ := ho
  cases e3
  refine q_get X M flX3_21 k4 (congrArg Value.int q5) dX3_append_1 ?_
  refine q_aload_n X dX3_append_4 rfl (lv_at hl 0 rfl) ?_
  have ho := gR_e hf
  clear hf
  obtain ⟨a6, v7, e8, k9, q10, hf⟩ := ho
  cases e8
  refine q_get X M flX3_15 k9 (congrArg va_rf q10) dX3_append_5 ?_
  have ho := gN_e hf
  clear hf
  obtain ⟨a11, v12, e13, k14, q15, hf⟩ := ho
  cases e13
  refine q_alen X M (t := 5) (by decide) k14 dX3_append_8 ?_
  rw [q15]
  refine lv_icmp_lt (tgt := 14) X.1 X.2.1 dX3_append_9 (by decide) (fun c16 => ?_) (fun c16 => ?_)
  · rw [if_pos c16] at hf
    refine q_aload_n X dX3_append_14 rfl (lv_at hl 0 rfl) ?_
    have ho := gR_e hf
    clear hf
    obtain ⟨a17, v18, e19, k20, q21, hf⟩ := ho
    cases e19
    refine q_get X M flX3_15 k20 (congrArg va_rf q21) dX3_append_15 ?_
    refine q_aload_n X dX3_append_18 rfl (lv_at hl 0 rfl) ?_
    have ho := gI_e hf
    clear hf
    obtain ⟨a22, v23, e24, k25, q26, hf⟩ := ho
    cases e24
    refine q_get X M flX3_21 k25 (congrArg Value.int q26) dX3_append_19 ?_
    refine q_aload_n X dX3_append_22 rfl (lv_at hl 1 rfl) ?_
    have ho := tR_e hf
    clear hf
    obtain ⟨a27, w28, e29, k30, i31, z33, q32, hf⟩ := ho
    cases e29
    refine q_aast X M hS (Or.inr (Or.inr (Or.inl ⟨rfl, rfl, rfl⟩))) k30 z33 i31 dX3_append_23 (fun H locs M hS => ?_)
    rw [q32] at M
    refine q_aload_n X dX3_append_24 rfl (lv_at hl 0 rfl) ?_
    refine lv_dup X.1 X.2.1 dX3_append_25 rfl ?_
    have ho := gI_e hf
    clear hf
    obtain ⟨a34, v35, e36, k37, q38, hf⟩ := ho
    cases e36
    refine q_get X M flX3_21 k37 (congrArg Value.int q38) dX3_append_26 ?_
    refine lv_iconst (v := 1) X.1 X.2.1 dX3_append_29 (by decide) ?_
    refine lv_iadd X.1 X.2.1 dX3_append_30 ?_
    have ho := pI_e hf
    clear hf
    obtain ⟨a39, w40, e41, k42, q43, hf⟩ := ho
    cases e41
    refine q_putI X M hS flX3_21 (Or.inl rfl) k42 dX3_append_31 (fun H locs M hS => ?_)
    rw [q43] at M
    refine lv_iconst (v := 1) X.1 X.2.1 dX3_append_34 (by decide) ?_
    have ho := retZ_e hf
    clear hf
    obtain ⟨z44, rfl⟩ := ho
    exact q_zret X M hS (by omega) (by omega) z44 dX3_append_35
  · rw [if_neg c16] at hf
    refine lv_iconst (v := 0) X.1 X.2.1 dX3_append_12 (by decide) ?_
    have ho := retZ_e hf
    clear hf
    obtain ⟨z45, rfl⟩ := ho
    exact q_zret X M hS (by omega) (by omega) z45 dX3_append_13
theorem m_X3_append {l : Launch} {D : va_G} {aC : Nat → ClassId} {b0 : Nat} {w : Wd} (o : Nat) (x1 : Option Nat) (v : Int32) (w' : Wd) (hf : f_X3_append o x1 w = some (v, w')) : Ct l D aC b0 yX3_append (Cond.code yX3_append cX3_append 2 (some .boolean) :: Gw) rX3_append [va_rf (some o), va_rf x1] w (some (.int v)) w' :=
  q_met (by decide) (by simp [lg_sl, cat1]) (fun p e s m below meth c X M ls hl => e_X3_append X (res := (v, w')) o x1 w s.heap [] 0 0 ls hf M va_S.rf (by decide) (by decide) (by simpa [lv_args, cat1] using hl))
abbrev rX3_removeAt : Room := { frames := 0, cells := 0, slots := 0, locals := 0 }
def f_X3_removeAt_17 (K45 : Nat → Wd → Option (Unit × Wd)) : Nat → Nat → Int32 → Wd → Option (Unit × Wd)
  | 0, _, _, _ => none
  | n + 1, o, x2, w => gI w (some o) 4 1 (fun v9 => if v9 ≤ x2 then (K45 o w) else (gR w (some o) 4 0 (fun v15 => gR w (some o) 4 0 (fun v20 => aR w v20 105 x2 (fun v25 => tR w v15 105 (x2 - 1) v25 3 (fun w31 => (f_X3_removeAt_17 K45 n) o (x2 + 1) w31))))))
set_option maxHeartbeats 4000000 in
set_option maxRecDepth 100000 in
theorem b_X3_removeAt_17 {l : Launch} {D : va_G} {aC : Nat → ClassId} {b0 : Nat} {p : Program} {e : Env} {s : State} {m : MethodId} {args : Array Value} {below : List Frame} {meth : Method} {c : Code} (X : Cx D aC p s m args meth c cX3_removeAt RX3 3 "removeAt" none) {res : (Unit × Wd)} {K45 : Nat → Wd → Option (Unit × Wd)} (hK45 : ∀ (o : Nat) (w : Wd), BW l D aC b0 p e rX3_removeAt s m args below meth c (Qe D aC b0 below args s 0 0 none res.2) res 0 0 0 0 (K45 o w) w 45 3 [(0, va_rf (some o))] []) : ∀ (n : Nat) (o : Nat) (x2 : Int32) (w : Wd), BW l D aC b0 p e rX3_removeAt s m args below meth c (Qe D aC b0 below args s 0 0 none res.2) res 0 0 0 0 (f_X3_removeAt_17 K45 n o x2 w) w 17 3 [(0, va_rf (some o)), (2, .int x2)] [] := by
  intro n
  induction n with
  | zero =>
    intro o x2 w H locs cells slots ls hf
    rw [f_X3_removeAt_17.eq_1] at hf
    cases hf
  | succ n ih =>
    intro o x2 w H locs cells slots ls hf M hS hc hs hl
    rw [f_X3_removeAt_17.eq_2] at hf
    refine lv_iload_n X.1 X.2.1 dX3_removeAt_17 rfl (lv_at hl 1 rfl) ?_
    refine q_aload_n X dX3_removeAt_18 rfl (lv_at hl 0 rfl) ?_
    have ho := gI_e hf
    clear hf
    obtain ⟨a8, v9, e10, k11, q12, hf⟩ := ho
    cases e10
    refine q_get X M flX3_21 k11 (congrArg Value.int q12) dX3_removeAt_19 ?_
    refine lv_icmp_ge (tgt := 45) X.1 X.2.1 dX3_removeAt_22 (by decide) (fun c13 => ?_) (fun c13 => ?_)
    · rw [if_pos c13] at hf
      exact hK45 o w _ _ _ _ _ hf M hS (by omega) (by omega) (lv_sub hl [0] rfl)
    · rw [if_neg c13] at hf
      refine q_aload_n X dX3_removeAt_25 rfl (lv_at hl 0 rfl) ?_
      have ho := gR_e hf
      clear hf
      obtain ⟨a14, v15, e16, k17, q18, hf⟩ := ho
      cases e16
      refine q_get X M flX3_15 k17 (congrArg va_rf q18) dX3_removeAt_26 ?_
      refine lv_iload_n X.1 X.2.1 dX3_removeAt_29 rfl (lv_at hl 1 rfl) ?_
      refine lv_iconst (v := 1) X.1 X.2.1 dX3_removeAt_30 (by decide) ?_
      refine lv_isub X.1 X.2.1 dX3_removeAt_31 ?_
      refine q_aload_n X dX3_removeAt_32 rfl (lv_at hl 0 rfl) ?_
      have ho := gR_e hf
      clear hf
      obtain ⟨a19, v20, e21, k22, q23, hf⟩ := ho
      cases e21
      refine q_get X M flX3_15 k22 (congrArg va_rf q23) dX3_removeAt_33 ?_
      refine lv_iload_n X.1 X.2.1 dX3_removeAt_36 rfl (lv_at hl 1 rfl) ?_
      have ho := aR_e hf
      clear hf
      obtain ⟨a24, v25, e26, k27, i28, q29, hf⟩ := ho
      cases e26
      refine q_aald X M (Or.inr (Or.inr (Or.inl ⟨rfl, rfl, rfl⟩))) k27 i28 dX3_removeAt_37 ?_
      rw [q29]
      have ho := tR_e hf
      clear hf
      obtain ⟨a30, w31, e32, k33, i34, z36, q35, hf⟩ := ho
      cases e32
      refine q_aast X M hS (Or.inr (Or.inr (Or.inl ⟨rfl, rfl, rfl⟩))) k33 z36 i34 dX3_removeAt_38 (fun H locs M hS => ?_)
      rw [q35] at M
      refine lv_iinc (v := (x2 + 1)) (lv' := [(2, .int (x2 + 1)), (0, va_rf (some o))]) X.1 X.2.1 dX3_removeAt_39 hl (k := 1) rfl rfl (by decide) rfl (fun ls hl => ?_)
      refine lv_goto (tgt := 17) X.1 X.2.1 dX3_removeAt_42 (by decide) ?_
      exact ih o (x2 + 1) w31 _ _ _ _ _ hf M hS (by omega) (by omega) (lv_sub hl [1, 0] rfl)
def f_X3_removeAt_45 (o : Nat) (w : Wd) : Option (Unit × Wd) := gI w (some o) 4 1 (fun v38 => pI w (some o) 4 1 (v38 - 1) (fun w43 => gR w43 (some o) 4 0 (fun v48 => gI w43 (some o) 4 1 (fun v53 => tR w43 v48 105 v53 none 3 (fun w58 => some ((), w58))))))
set_option maxHeartbeats 4000000 in
set_option maxRecDepth 100000 in
theorem b_X3_removeAt_45 {l : Launch} {D : va_G} {aC : Nat → ClassId} {b0 : Nat} {p : Program} {e : Env} {s : State} {m : MethodId} {args : Array Value} {below : List Frame} {meth : Method} {c : Code} (X : Cx D aC p s m args meth c cX3_removeAt RX3 3 "removeAt" none) {res : (Unit × Wd)} : ∀ (o : Nat) (w : Wd), BW l D aC b0 p e rX3_removeAt s m args below meth c (Qe D aC b0 below args s 0 0 none res.2) res 0 0 0 0 (f_X3_removeAt_45 o w) w 45 3 [(0, va_rf (some o))] [] := by
  intro o w H locs cells slots ls hf M hS hc hs hl
  unfold f_X3_removeAt_45 at hf
  refine q_aload_n X dX3_removeAt_45 rfl (lv_at hl 0 rfl) ?_
  refine lv_dup X.1 X.2.1 dX3_removeAt_46 rfl ?_
  have ho := gI_e hf
  clear hf
  obtain ⟨a37, v38, e39, k40, q41, hf⟩ := ho
  cases e39
  refine q_get X M flX3_21 k40 (congrArg Value.int q41) dX3_removeAt_47 ?_
  refine lv_iconst (v := 1) X.1 X.2.1 dX3_removeAt_50 (by decide) ?_
  refine lv_isub X.1 X.2.1 dX3_removeAt_51 ?_
  have ho := pI_e hf
  clear hf
  obtain ⟨a42, w43, e44, k45, q46, hf⟩ := ho
  cases e44
  refine q_putI X M hS flX3_21 (Or.inl rfl) k45 dX3_removeAt_52 (fun H locs M hS => ?_)
  rw [q46] at M
  refine q_aload_n X dX3_removeAt_55 rfl (lv_at hl 0 rfl) ?_
  have ho := gR_e hf
  clear hf
  obtain ⟨a47, v48, e49, k50, q51, hf⟩ := ho
  cases e49
  refine q_get X M flX3_15 k50 (congrArg va_rf q51) dX3_removeAt_56 ?_
  refine q_aload_n X dX3_removeAt_59 rfl (lv_at hl 0 rfl) ?_
  have ho := gI_e hf
  clear hf
  obtain ⟨a52, v53, e54, k55, q56, hf⟩ := ho
  cases e54
  refine q_get X M flX3_21 k55 (congrArg Value.int q56) dX3_removeAt_60 ?_
  refine q_null X dX3_removeAt_63 ?_
  have ho := tR_e hf
  clear hf
  obtain ⟨a57, w58, e59, k60, i61, z63, q62, hf⟩ := ho
  cases e59
  refine q_aast X M hS (Or.inr (Or.inr (Or.inl ⟨rfl, rfl, rfl⟩))) k60 z63 i61 dX3_removeAt_64 (fun H locs M hS => ?_)
  rw [q62] at M
  obtain rfl := Option.some.inj hf
  exact q_vret X M hS (by omega) (by omega) dX3_removeAt_65
def f_X3_removeAt (o : Nat) (x1 : Int32) (w : Wd) : Option (Unit × Wd) := if x1 < 0 then (some ((), w)) else (gI w (some o) 4 1 (fun v3 => if x1 < v3 then ((f_X3_removeAt_17 (f_X3_removeAt_45) FU) o (x1 + 1) w) else (some ((), w))))
set_option maxHeartbeats 4000000 in
set_option maxRecDepth 100000 in
theorem e_X3_removeAt {l : Launch} {D : va_G} {aC : Nat → ClassId} {b0 : Nat} {p : Program} {e : Env} {s : State} {m : MethodId} {args : Array Value} {below : List Frame} {meth : Method} {c : Code} (X : Cx D aC p s m args meth c cX3_removeAt RX3 3 "removeAt" none) {res : (Unit × Wd)} (o : Nat) (x1 : Int32) (w : Wd) : BW l D aC b0 p e rX3_removeAt s m args below meth c (Qe D aC b0 below args s 0 0 none res.2) res 0 0 0 0 (f_X3_removeAt o x1 w) w 0 3 [(0, va_rf (some o)), (1, .int x1)] [] := by
  intro H locs cells slots ls hf M hS hc hs hl
  unfold f_X3_removeAt at hf
  refine lv_iload_n X.1 X.2.1 dX3_removeAt_0 rfl (lv_at hl 1 rfl) ?_
  refine lv_if_lt (tgt := 12) X.1 X.2.1 dX3_removeAt_1 (by decide) (fun c1 => ?_) (fun c1 => ?_)
  · rw [if_pos c1] at hf
    obtain rfl := Option.some.inj hf
    exact q_vret X M hS (by omega) (by omega) dX3_removeAt_12
  · rw [if_neg c1] at hf
    refine lv_iload_n X.1 X.2.1 dX3_removeAt_4 rfl (lv_at hl 1 rfl) ?_
    refine q_aload_n X dX3_removeAt_5 rfl (lv_at hl 0 rfl) ?_
    have ho := gI_e hf
    clear hf
    obtain ⟨a2, v3, e4, k5, q6, hf⟩ := ho
    cases e4
    refine q_get X M flX3_21 k5 (congrArg Value.int q6) dX3_removeAt_6 ?_
    refine lv_icmp_lt (tgt := 13) X.1 X.2.1 dX3_removeAt_9 (by decide) (fun c7 => ?_) (fun c7 => ?_)
    · rw [if_pos c7] at hf
      refine lv_iload_n X.1 X.2.1 dX3_removeAt_13 rfl (lv_at hl 1 rfl) ?_
      refine lv_iconst (v := 1) X.1 X.2.1 dX3_removeAt_14 (by decide) ?_
      refine lv_iadd X.1 X.2.1 dX3_removeAt_15 ?_
      refine lv_istore_n (lv' := [(2, .int (x1 + 1)), (0, va_rf (some o)), (1, .int x1)]) X.1 X.2.1 dX3_removeAt_16 rfl hl (by decide) rfl (fun ls hl => ?_)
      exact (b_X3_removeAt_17 X (b_X3_removeAt_45 X) FU) o (x1 + 1) w _ _ _ _ _ hf M hS (by omega) (by omega) (lv_sub hl [1, 0] rfl)
    · rw [if_neg c7] at hf
      obtain rfl := Option.some.inj hf
      exact q_vret X M hS (by omega) (by omega) dX3_removeAt_12
theorem m_X3_removeAt {l : Launch} {D : va_G} {aC : Nat → ClassId} {b0 : Nat} {w : Wd} (o : Nat) (x1 : Int32) (v : Unit) (w' : Wd) (hf : f_X3_removeAt o x1 w = some (v, w')) : Ct l D aC b0 yX3_removeAt (Cond.code yX3_removeAt cX3_removeAt 3 none :: Gw) rX3_removeAt [va_rf (some o), .int x1] w none w' :=
  q_met (by decide) (Nat.le_of_ble_eq_true rfl) (fun p e s m below meth c X M ls hl => e_X3_removeAt X (res := (v, w')) o x1 w s.heap [] 0 0 ls hf M va_S.rf (by decide) (by decide) hl)
abbrev rX4_bucketAt : Room := { frames := 0, cells := 0, slots := 0, locals := 0 }
def f_X4_bucketAt (o : Nat) (x1 : Int32) (w : Wd) : Option ((Option Nat) × Wd) := if x1 < 0 then (some (none, w)) else (if 8 ≤ x1 then (some (none, w)) else (gR w (some o) 5 2 (fun v4 => aR w v4 103 x1 (fun v9 => some (v9, w)))))
set_option maxHeartbeats 4000000 in
set_option maxRecDepth 100000 in
theorem e_X4_bucketAt {l : Launch} {D : va_G} {aC : Nat → ClassId} {b0 : Nat} {p : Program} {e : Env} {s : State} {m : MethodId} {args : Array Value} {below : List Frame} {meth : Method} {c : Code} (X : Cx D aC p s m args meth c cX4_bucketAt RX4 2 "bucketAt" (some (.object "OnceCalls$Bucket"))) {res : ((Option Nat) × Wd)} (o : Nat) (x1 : Int32) (w : Wd) : BW l D aC b0 p e rX4_bucketAt s m args below meth c (Qe D aC b0 below args s 0 0 (some (va_rf res.1)) res.2) res 0 0 0 0 (f_X4_bucketAt o x1 w) w 0 2 [(0, va_rf (some o)), (1, .int x1)] [] := by
  intro H locs cells slots ls hf M hS hc hs hl
  unfold f_X4_bucketAt at hf
  refine lv_iload_n X.1 X.2.1 dX4_bucketAt_0 rfl (lv_at hl 1 rfl) ?_
  refine lv_if_lt (tgt := 19) X.1 X.2.1 dX4_bucketAt_1 (by decide) (fun c1 => ?_) (fun c1 => ?_)
  · rw [if_pos c1] at hf
    refine q_null X dX4_bucketAt_19 ?_
    obtain rfl := Option.some.inj hf
    exact q_aret X M hS (by omega) (by omega) dX4_bucketAt_20
  · rw [if_neg c1] at hf
    refine lv_iload_n X.1 X.2.1 dX4_bucketAt_4 rfl (lv_at hl 1 rfl) ?_
    refine lv_bipush (v := 8) X.1 X.2.1 dX4_bucketAt_5 (by decide) ?_
    refine lv_icmp_ge (tgt := 19) X.1 X.2.1 dX4_bucketAt_7 (by decide) (fun c2 => ?_) (fun c2 => ?_)
    · rw [if_pos c2] at hf
      refine q_null X dX4_bucketAt_19 ?_
      obtain rfl := Option.some.inj hf
      exact q_aret X M hS (by omega) (by omega) dX4_bucketAt_20
    · rw [if_neg c2] at hf
      refine q_aload_n X dX4_bucketAt_10 rfl (lv_at hl 0 rfl) ?_
      have ho := gR_e hf
      clear hf
      obtain ⟨a3, v4, e5, k6, q7, hf⟩ := ho
      cases e5
      refine q_get X M flX4_22 k6 (congrArg va_rf q7) dX4_bucketAt_11 ?_
      refine lv_iload_n X.1 X.2.1 dX4_bucketAt_14 rfl (lv_at hl 1 rfl) ?_
      have ho := aR_e hf
      clear hf
      obtain ⟨a8, v9, e10, k11, i12, q13, hf⟩ := ho
      cases e10
      refine q_aald X M (Or.inl ⟨rfl, rfl, rfl⟩) k11 i12 dX4_bucketAt_15 ?_
      rw [q13]
      refine lv_goto (tgt := 20) X.1 X.2.1 dX4_bucketAt_16 (by decide) ?_
      obtain rfl := Option.some.inj hf
      exact q_aret X M hS (by omega) (by omega) dX4_bucketAt_20
theorem m_X4_bucketAt {l : Launch} {D : va_G} {aC : Nat → ClassId} {b0 : Nat} {w : Wd} (o : Nat) (x1 : Int32) (v : (Option Nat)) (w' : Wd) (hf : f_X4_bucketAt o x1 w = some (v, w')) : Ct l D aC b0 yX4_bucketAt (Cond.code yX4_bucketAt cX4_bucketAt 2 (some (.object "OnceCalls$Bucket")) :: Gw) rX4_bucketAt [va_rf (some o), .int x1] w (some (va_rf v)) w' :=
  q_met (by decide) (Nat.le_of_ble_eq_true rfl) (fun p e s m below meth c X M ls hl => e_X4_bucketAt X (res := (v, w')) o x1 w s.heap [] 0 0 ls hf M va_S.rf (by decide) (by decide) hl)
abbrev rX0_copyFrom : Room := { frames := 1, cells := 0, slots := 0, locals := 26 }
def f_X0_copyFrom (o : Nat) (x1 : Option Nat) (w : Wd) : Option (Unit × Wd) := gI w x1 1 0 (fun v2 => pI w (some o) 1 0 v2 (fun w7 => gI w7 x1 1 1 (fun v12 => pI w7 (some o) 1 1 v12 (fun w17 => gI w17 x1 1 2 (fun v22 => pI w17 (some o) 1 2 v22 (fun w27 => gI w27 x1 1 3 (fun v32 => pI w27 (some o) 1 3 v32 (fun w37 => gR w37 x1 1 4 (fun v42 => gR w37 (some o) 1 4 (fun v47 => cpL w37 v42 0 v47 0 4 (fun w53 => gR w53 x1 1 5 (fun v65 => gR w53 (some o) 1 5 (fun v70 => gI w53 (some o) 1 3 (fun v75 => cpI w53 v65 0 v70 0 v75 (fun w81 => gR w81 x1 1 6 (fun v93 => gR w81 (some o) 1 6 (fun v98 => gI w81 (some o) 1 3 (fun v103 => cpI w81 v93 0 v98 0 v103 (fun w109 => gR w109 x1 1 7 (fun v121 => gR w109 (some o) 1 7 (fun v126 => gI w109 (some o) 1 3 (fun v131 => cpI w109 v121 0 v126 0 v131 (fun w137 => gR w137 x1 1 8 (fun v149 => gR w137 (some o) 1 8 (fun v154 => gI w137 (some o) 1 3 (fun v159 => cpL w137 v149 0 v154 0 v159 (fun w165 => gR w165 x1 1 9 (fun v177 => gR w165 (some o) 1 9 (fun v182 => cpI w165 v177 0 v182 0 6 (fun w188 => gR w188 x1 1 10 (fun v200 => gR w188 (some o) 1 10 (fun v205 => cpI w188 v200 0 v205 0 6 (fun w211 => some ((), w211))))))))))))))))))))))))))))))))))
set_option maxHeartbeats 4000000 in
set_option maxRecDepth 100000 in
theorem e_X0_copyFrom {l : Launch} {D : va_G} {aC : Nat → ClassId} {b0 : Nat} {p : Program} {e : Env} {s : State} {m : MethodId} {args : Array Value} {below : List Frame} {meth : Method} {c : Code} (X : Cx D aC p s m args meth c cX0_copyFrom RX0 2 "copyFrom" none) {res : (Unit × Wd)} (o : Nat) (x1 : Option Nat) (w : Wd) : BW l D aC b0 p e rX0_copyFrom s m args below meth c (Qe D aC b0 below args s 0 0 none res.2) res 0 0 0 0 (f_X0_copyFrom o x1 w) w 0 2 [(0, va_rf (some o)), (1, va_rf x1)] [] := by
  intro H locs cells slots ls hf M hS hc hs hl
  unfold f_X0_copyFrom at hf
  refine q_aload_n X dX0_copyFrom_0 rfl (lv_at hl 0 rfl) ?_
  refine q_aload_n X dX0_copyFrom_1 rfl (lv_at hl 1 rfl) ?_
  have ho := gI_e hf
  clear hf
  obtain ⟨a1, v2, e3, k4, q5, hf⟩ := ho
  cases e3
  refine q_get X M flX0_34 k4 (congrArg Value.int q5) dX0_copyFrom_2 ?_
  have ho := pI_e hf
  clear hf
  obtain ⟨a6, w7, e8, k9, q10, hf⟩ := ho
  cases e8
  refine q_putI X M hS flX0_34 (Or.inl rfl) k9 dX0_copyFrom_5 (fun H locs M hS => ?_)
  rw [q10] at M
  refine q_aload_n X dX0_copyFrom_8 rfl (lv_at hl 0 rfl) ?_
  refine q_aload_n X dX0_copyFrom_9 rfl (lv_at hl 1 rfl) ?_
  have ho := gI_e hf
  clear hf
  obtain ⟨a11, v12, e13, k14, q15, hf⟩ := ho
  cases e13
  refine q_get X M flX0_38 k14 (congrArg Value.int q15) dX0_copyFrom_10 ?_
  have ho := pI_e hf
  clear hf
  obtain ⟨a16, w17, e18, k19, q20, hf⟩ := ho
  cases e18
  refine q_putI X M hS flX0_38 (Or.inl rfl) k19 dX0_copyFrom_13 (fun H locs M hS => ?_)
  rw [q20] at M
  refine q_aload_n X dX0_copyFrom_16 rfl (lv_at hl 0 rfl) ?_
  refine q_aload_n X dX0_copyFrom_17 rfl (lv_at hl 1 rfl) ?_
  have ho := gI_e hf
  clear hf
  obtain ⟨a21, v22, e23, k24, q25, hf⟩ := ho
  cases e23
  refine q_get X M flX0_41 k24 (congrArg Value.int q25) dX0_copyFrom_18 ?_
  have ho := pI_e hf
  clear hf
  obtain ⟨a26, w27, e28, k29, q30, hf⟩ := ho
  cases e28
  refine q_putI X M hS flX0_41 (Or.inl rfl) k29 dX0_copyFrom_21 (fun H locs M hS => ?_)
  rw [q30] at M
  refine q_aload_n X dX0_copyFrom_24 rfl (lv_at hl 0 rfl) ?_
  refine q_aload_n X dX0_copyFrom_25 rfl (lv_at hl 1 rfl) ?_
  have ho := gI_e hf
  clear hf
  obtain ⟨a31, v32, e33, k34, q35, hf⟩ := ho
  cases e33
  refine q_get X M flX0_44 k34 (congrArg Value.int q35) dX0_copyFrom_26 ?_
  have ho := pI_e hf
  clear hf
  obtain ⟨a36, w37, e38, k39, q40, hf⟩ := ho
  cases e38
  refine q_putI X M hS flX0_44 (Or.inl rfl) k39 dX0_copyFrom_29 (fun H locs M hS => ?_)
  rw [q40] at M
  refine q_aload_n X dX0_copyFrom_32 rfl (lv_at hl 1 rfl) ?_
  have ho := gR_e hf
  clear hf
  obtain ⟨a41, v42, e43, k44, q45, hf⟩ := ho
  cases e43
  refine q_get X M flX0_9 k44 (congrArg va_rf q45) dX0_copyFrom_33 ?_
  refine lv_iconst (v := 0) X.1 X.2.1 dX0_copyFrom_36 (by decide) ?_
  refine q_aload_n X dX0_copyFrom_37 rfl (lv_at hl 0 rfl) ?_
  have ho := gR_e hf
  clear hf
  obtain ⟨a46, v47, e48, k49, q50, hf⟩ := ho
  cases e48
  refine q_get X M flX0_9 k49 (congrArg va_rf q50) dX0_copyFrom_38 ?_
  refine lv_iconst (v := 0) X.1 X.2.1 dX0_copyFrom_41 (by decide) ?_
  refine lv_iconst (v := 4) X.1 X.2.1 dX0_copyFrom_42 (by decide) ?_
  have ho := cpL_e hf
  clear hf
  obtain ⟨a51, a52, w53, e54, e55, k56, k57, z58, z59, z60, z61, z62, q63, hf⟩ := ho
  cases e54
  cases e55
  refine q_cpyL X M hS hl.1 saX0_47 k56 k57 z58 z59 z60 z61 z62 (Nat.le_of_ble_eq_true rfl) (Nat.le_of_ble_eq_true rfl) dX0_copyFrom_43 (fun H locs M hS => ?_)
  rw [q63] at M
  refine q_aload_n X dX0_copyFrom_46 rfl (lv_at hl 1 rfl) ?_
  have ho := gR_e hf
  clear hf
  obtain ⟨a64, v65, e66, k67, q68, hf⟩ := ho
  cases e66
  refine q_get X M flX0_15 k67 (congrArg va_rf q68) dX0_copyFrom_47 ?_
  refine lv_iconst (v := 0) X.1 X.2.1 dX0_copyFrom_50 (by decide) ?_
  refine q_aload_n X dX0_copyFrom_51 rfl (lv_at hl 0 rfl) ?_
  have ho := gR_e hf
  clear hf
  obtain ⟨a69, v70, e71, k72, q73, hf⟩ := ho
  cases e71
  refine q_get X M flX0_15 k72 (congrArg va_rf q73) dX0_copyFrom_52 ?_
  refine lv_iconst (v := 0) X.1 X.2.1 dX0_copyFrom_55 (by decide) ?_
  refine q_aload_n X dX0_copyFrom_56 rfl (lv_at hl 0 rfl) ?_
  have ho := gI_e hf
  clear hf
  obtain ⟨a74, v75, e76, k77, q78, hf⟩ := ho
  cases e76
  refine q_get X M flX0_44 k77 (congrArg Value.int q78) dX0_copyFrom_57 ?_
  have ho := cpI_e hf
  clear hf
  obtain ⟨a79, a80, w81, e82, e83, k84, k85, z86, z87, z88, z89, z90, q91, hf⟩ := ho
  cases e82
  cases e83
  refine q_cpyI X M hS hl.1 saX0_47 k84 k85 z86 z87 z88 z89 z90 (Nat.le_of_ble_eq_true rfl) (Nat.le_of_ble_eq_true rfl) dX0_copyFrom_60 (fun H locs M hS => ?_)
  rw [q91] at M
  refine q_aload_n X dX0_copyFrom_63 rfl (lv_at hl 1 rfl) ?_
  have ho := gR_e hf
  clear hf
  obtain ⟨a92, v93, e94, k95, q96, hf⟩ := ho
  cases e94
  refine q_get X M flX0_19 k95 (congrArg va_rf q96) dX0_copyFrom_64 ?_
  refine lv_iconst (v := 0) X.1 X.2.1 dX0_copyFrom_67 (by decide) ?_
  refine q_aload_n X dX0_copyFrom_68 rfl (lv_at hl 0 rfl) ?_
  have ho := gR_e hf
  clear hf
  obtain ⟨a97, v98, e99, k100, q101, hf⟩ := ho
  cases e99
  refine q_get X M flX0_19 k100 (congrArg va_rf q101) dX0_copyFrom_69 ?_
  refine lv_iconst (v := 0) X.1 X.2.1 dX0_copyFrom_72 (by decide) ?_
  refine q_aload_n X dX0_copyFrom_73 rfl (lv_at hl 0 rfl) ?_
  have ho := gI_e hf
  clear hf
  obtain ⟨a102, v103, e104, k105, q106, hf⟩ := ho
  cases e104
  refine q_get X M flX0_44 k105 (congrArg Value.int q106) dX0_copyFrom_74 ?_
  have ho := cpI_e hf
  clear hf
  obtain ⟨a107, a108, w109, e110, e111, k112, k113, z114, z115, z116, z117, z118, q119, hf⟩ := ho
  cases e110
  cases e111
  refine q_cpyI X M hS hl.1 saX0_47 k112 k113 z114 z115 z116 z117 z118 (Nat.le_of_ble_eq_true rfl) (Nat.le_of_ble_eq_true rfl) dX0_copyFrom_77 (fun H locs M hS => ?_)
  rw [q119] at M
  refine q_aload_n X dX0_copyFrom_80 rfl (lv_at hl 1 rfl) ?_
  have ho := gR_e hf
  clear hf
  obtain ⟨a120, v121, e122, k123, q124, hf⟩ := ho
  cases e122
  refine q_get X M flX0_22 k123 (congrArg va_rf q124) dX0_copyFrom_81 ?_
  refine lv_iconst (v := 0) X.1 X.2.1 dX0_copyFrom_84 (by decide) ?_
  refine q_aload_n X dX0_copyFrom_85 rfl (lv_at hl 0 rfl) ?_
  have ho := gR_e hf
  clear hf
  obtain ⟨a125, v126, e127, k128, q129, hf⟩ := ho
  cases e127
  refine q_get X M flX0_22 k128 (congrArg va_rf q129) dX0_copyFrom_86 ?_
  refine lv_iconst (v := 0) X.1 X.2.1 dX0_copyFrom_89 (by decide) ?_
  refine q_aload_n X dX0_copyFrom_90 rfl (lv_at hl 0 rfl) ?_
  have ho := gI_e hf
  clear hf
  obtain ⟨a130, v131, e132, k133, q134, hf⟩ := ho
  cases e132
  refine q_get X M flX0_44 k133 (congrArg Value.int q134) dX0_copyFrom_91 ?_
  have ho := cpI_e hf
  clear hf
  obtain ⟨a135, a136, w137, e138, e139, k140, k141, z142, z143, z144, z145, z146, q147, hf⟩ := ho
  cases e138
  cases e139
  refine q_cpyI X M hS hl.1 saX0_47 k140 k141 z142 z143 z144 z145 z146 (Nat.le_of_ble_eq_true rfl) (Nat.le_of_ble_eq_true rfl) dX0_copyFrom_94 (fun H locs M hS => ?_)
  rw [q147] at M
  refine q_aload_n X dX0_copyFrom_97 rfl (lv_at hl 1 rfl) ?_
  have ho := gR_e hf
  clear hf
  obtain ⟨a148, v149, e150, k151, q152, hf⟩ := ho
  cases e150
  refine q_get X M flX0_25 k151 (congrArg va_rf q152) dX0_copyFrom_98 ?_
  refine lv_iconst (v := 0) X.1 X.2.1 dX0_copyFrom_101 (by decide) ?_
  refine q_aload_n X dX0_copyFrom_102 rfl (lv_at hl 0 rfl) ?_
  have ho := gR_e hf
  clear hf
  obtain ⟨a153, v154, e155, k156, q157, hf⟩ := ho
  cases e155
  refine q_get X M flX0_25 k156 (congrArg va_rf q157) dX0_copyFrom_103 ?_
  refine lv_iconst (v := 0) X.1 X.2.1 dX0_copyFrom_106 (by decide) ?_
  refine q_aload_n X dX0_copyFrom_107 rfl (lv_at hl 0 rfl) ?_
  have ho := gI_e hf
  clear hf
  obtain ⟨a158, v159, e160, k161, q162, hf⟩ := ho
  cases e160
  refine q_get X M flX0_44 k161 (congrArg Value.int q162) dX0_copyFrom_108 ?_
  have ho := cpL_e hf
  clear hf
  obtain ⟨a163, a164, w165, e166, e167, k168, k169, z170, z171, z172, z173, z174, q175, hf⟩ := ho
  cases e166
  cases e167
  refine q_cpyL X M hS hl.1 saX0_47 k168 k169 z170 z171 z172 z173 z174 (Nat.le_of_ble_eq_true rfl) (Nat.le_of_ble_eq_true rfl) dX0_copyFrom_111 (fun H locs M hS => ?_)
  rw [q175] at M
  refine q_aload_n X dX0_copyFrom_114 rfl (lv_at hl 1 rfl) ?_
  have ho := gR_e hf
  clear hf
  obtain ⟨a176, v177, e178, k179, q180, hf⟩ := ho
  cases e178
  refine q_get X M flX0_28 k179 (congrArg va_rf q180) dX0_copyFrom_115 ?_
  refine lv_iconst (v := 0) X.1 X.2.1 dX0_copyFrom_118 (by decide) ?_
  refine q_aload_n X dX0_copyFrom_119 rfl (lv_at hl 0 rfl) ?_
  have ho := gR_e hf
  clear hf
  obtain ⟨a181, v182, e183, k184, q185, hf⟩ := ho
  cases e183
  refine q_get X M flX0_28 k184 (congrArg va_rf q185) dX0_copyFrom_120 ?_
  refine lv_iconst (v := 0) X.1 X.2.1 dX0_copyFrom_123 (by decide) ?_
  refine lv_bipush (v := 6) X.1 X.2.1 dX0_copyFrom_124 (by decide) ?_
  have ho := cpI_e hf
  clear hf
  obtain ⟨a186, a187, w188, e189, e190, k191, k192, z193, z194, z195, z196, z197, q198, hf⟩ := ho
  cases e189
  cases e190
  refine q_cpyI X M hS hl.1 saX0_47 k191 k192 z193 z194 z195 z196 z197 (Nat.le_of_ble_eq_true rfl) (Nat.le_of_ble_eq_true rfl) dX0_copyFrom_126 (fun H locs M hS => ?_)
  rw [q198] at M
  refine q_aload_n X dX0_copyFrom_129 rfl (lv_at hl 1 rfl) ?_
  have ho := gR_e hf
  clear hf
  obtain ⟨a199, v200, e201, k202, q203, hf⟩ := ho
  cases e201
  refine q_get X M flX0_31 k202 (congrArg va_rf q203) dX0_copyFrom_130 ?_
  refine lv_iconst (v := 0) X.1 X.2.1 dX0_copyFrom_133 (by decide) ?_
  refine q_aload_n X dX0_copyFrom_134 rfl (lv_at hl 0 rfl) ?_
  have ho := gR_e hf
  clear hf
  obtain ⟨a204, v205, e206, k207, q208, hf⟩ := ho
  cases e206
  refine q_get X M flX0_31 k207 (congrArg va_rf q208) dX0_copyFrom_135 ?_
  refine lv_iconst (v := 0) X.1 X.2.1 dX0_copyFrom_138 (by decide) ?_
  refine lv_bipush (v := 6) X.1 X.2.1 dX0_copyFrom_139 (by decide) ?_
  have ho := cpI_e hf
  clear hf
  obtain ⟨a209, a210, w211, e212, e213, k214, k215, z216, z217, z218, z219, z220, q221, hf⟩ := ho
  cases e212
  cases e213
  refine q_cpyI X M hS hl.1 saX0_47 k214 k215 z216 z217 z218 z219 z220 (Nat.le_of_ble_eq_true rfl) (Nat.le_of_ble_eq_true rfl) dX0_copyFrom_141 (fun H locs M hS => ?_)
  rw [q221] at M
  obtain rfl := Option.some.inj hf
  exact q_vret X M hS (by omega) (by omega) dX0_copyFrom_144
theorem m_X0_copyFrom {l : Launch} {D : va_G} {aC : Nat → ClassId} {b0 : Nat} {w : Wd} (o : Nat) (x1 : Option Nat) (v : Unit) (w' : Wd) (hf : f_X0_copyFrom o x1 w = some (v, w')) : Ct l D aC b0 yX0_copyFrom (Cond.code yX0_copyFrom cX0_copyFrom 2 none :: Gw) rX0_copyFrom [va_rf (some o), va_rf x1] w none w' :=
  q_met (by decide) (by simp [lg_sl, cat1]) (fun p e s m below meth c X M ls hl => e_X0_copyFrom X (res := (v, w')) o x1 w s.heap [] 0 0 ls hf M va_S.rf (by decide) (by decide) (by simpa [lv_args, cat1] using hl))
end
