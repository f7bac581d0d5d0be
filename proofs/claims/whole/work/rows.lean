section
-- ===== PART A: goes FIRST, ahead of the names: the tables' words, and 'selects' of the private methods out of them =====
/-- a private method of a class that the tables say can be made, by its rows of tables_1 -/
def lw_okq (q : MethodName × Nat) : Prop := (q.1.cls ≠ "java/lang/invoke/MethodHandle" ∧ q.1.cls ≠ "java/lang/invoke/VarHandle") ∧ Cond.instantiable q.1.cls q.2 ∈ tables_1 ∧ Cond.privateMethod q.1 ∈ tables_1 ∧ Cond.instanceMethod q.1 ∈ tables_1
theorem lw_p0 : lw_okq (⟨"java/lang/Throwable", "fillInStackTrace", "(I)Ljava/lang/Throwable;"⟩, 6) := ⟨⟨by decide +kernel, by decide +kernel⟩, List.mem_of_getElem? (i := 100) (by decide +kernel), List.mem_of_getElem? (i := 98) (by decide +kernel), List.mem_of_getElem? (i := 99) (by decide +kernel)⟩
theorem lw_p1 : lw_okq (⟨"Swarmhall", "known", "(I)LSwarmhall$Peer;"⟩, 5) := ⟨⟨by decide +kernel, by decide +kernel⟩, List.mem_of_getElem? (i := 16) (by decide +kernel), List.mem_of_getElem? (i := 259) (by decide +kernel), List.mem_of_getElem? (i := 260) (by decide +kernel)⟩
theorem lw_p2 : lw_okq (⟨"Swarmhall", "find", "(I)LSwarmhall$Peer;"⟩, 5) := ⟨⟨by decide +kernel, by decide +kernel⟩, List.mem_of_getElem? (i := 16) (by decide +kernel), List.mem_of_getElem? (i := 263) (by decide +kernel), List.mem_of_getElem? (i := 264) (by decide +kernel)⟩
theorem lw_p3 : lw_okq (⟨"Swarmhall", "runRound", "()I"⟩, 5) := ⟨⟨by decide +kernel, by decide +kernel⟩, List.mem_of_getElem? (i := 16) (by decide +kernel), List.mem_of_getElem? (i := 350) (by decide +kernel), List.mem_of_getElem? (i := 351) (by decide +kernel)⟩
theorem lw_p4 : lw_okq (⟨"Swarmhall", "begin", "()V"⟩, 5) := ⟨⟨by decide +kernel, by decide +kernel⟩, List.mem_of_getElem? (i := 16) (by decide +kernel), List.mem_of_getElem? (i := 354) (by decide +kernel), List.mem_of_getElem? (i := 355) (by decide +kernel)⟩
theorem lw_p5 : lw_okq (⟨"Swarmhall", "countHolders", "(I)I"⟩, 5) := ⟨⟨by decide +kernel, by decide +kernel⟩, List.mem_of_getElem? (i := 16) (by decide +kernel), List.mem_of_getElem? (i := 358) (by decide +kernel), List.mem_of_getElem? (i := 359) (by decide +kernel)⟩
theorem lw_p6 : lw_okq (⟨"Swarmhall", "findChosen", "(LSwarmhall$Peer;)I"⟩, 5) := ⟨⟨by decide +kernel, by decide +kernel⟩, List.mem_of_getElem? (i := 16) (by decide +kernel), List.mem_of_getElem? (i := 366) (by decide +kernel), List.mem_of_getElem? (i := 367) (by decide +kernel)⟩
theorem lw_p7 : lw_okq (⟨"Swarmhall", "findInterested", "(LSwarmhall$Peer;)I"⟩, 5) := ⟨⟨by decide +kernel, by decide +kernel⟩, List.mem_of_getElem? (i := 16) (by decide +kernel), List.mem_of_getElem? (i := 370) (by decide +kernel), List.mem_of_getElem? (i := 371) (by decide +kernel)⟩
theorem lw_p8 : lw_okq (⟨"Swarmhall", "wantedPieces", "()I"⟩, 5) := ⟨⟨by decide +kernel, by decide +kernel⟩, List.mem_of_getElem? (i := 16) (by decide +kernel), List.mem_of_getElem? (i := 374) (by decide +kernel), List.mem_of_getElem? (i := 375) (by decide +kernel)⟩
theorem lw_p9 : lw_okq (⟨"Swarmhall", "findShown", "(LSwarmhall$Peer;LSwarmhall$Peer;)I"⟩, 5) := ⟨⟨by decide +kernel, by decide +kernel⟩, List.mem_of_getElem? (i := 16) (by decide +kernel), List.mem_of_getElem? (i := 378) (by decide +kernel), List.mem_of_getElem? (i := 379) (by decide +kernel)⟩
theorem lw_p10 : lw_okq (⟨"Swarmhall", "findRarest", "(II)I"⟩, 5) := ⟨⟨by decide +kernel, by decide +kernel⟩, List.mem_of_getElem? (i := 16) (by decide +kernel), List.mem_of_getElem? (i := 382) (by decide +kernel), List.mem_of_getElem? (i := 383) (by decide +kernel)⟩
theorem lw_p11 : lw_okq (⟨"Swarmhall", "findNextInTurn", "(I)I"⟩, 5) := ⟨⟨by decide +kernel, by decide +kernel⟩, List.mem_of_getElem? (i := 16) (by decide +kernel), List.mem_of_getElem? (i := 392) (by decide +kernel), List.mem_of_getElem? (i := 393) (by decide +kernel)⟩
theorem lw_p12 : lw_okq (⟨"Swarmhall", "beginShowing", "(LSwarmhall$Peer;)V"⟩, 5) := ⟨⟨by decide +kernel, by decide +kernel⟩, List.mem_of_getElem? (i := 16) (by decide +kernel), List.mem_of_getElem? (i := 396) (by decide +kernel), List.mem_of_getElem? (i := 397) (by decide +kernel)⟩
theorem lw_p13 : lw_okq (⟨"Swarmhall", "askAll", "()V"⟩, 5) := ⟨⟨by decide +kernel, by decide +kernel⟩, List.mem_of_getElem? (i := 16) (by decide +kernel), List.mem_of_getElem? (i := 400) (by decide +kernel), List.mem_of_getElem? (i := 401) (by decide +kernel)⟩
theorem lw_p14 : lw_okq (⟨"Swarmhall", "askOthers", "(LSwarmhall$Peer;I)V"⟩, 5) := ⟨⟨by decide +kernel, by decide +kernel⟩, List.mem_of_getElem? (i := 16) (by decide +kernel), List.mem_of_getElem? (i := 404) (by decide +kernel), List.mem_of_getElem? (i := 405) (by decide +kernel)⟩
theorem lw_p15 : lw_okq (⟨"Swarmhall", "askOne", "(LSwarmhall$Peer;LSwarmhall$Peer;J)V"⟩, 5) := ⟨⟨by decide +kernel, by decide +kernel⟩, List.mem_of_getElem? (i := 16) (by decide +kernel), List.mem_of_getElem? (i := 416) (by decide +kernel), List.mem_of_getElem? (i := 417) (by decide +kernel)⟩
def lw_privs_1 : List (MethodName × Nat) := [(⟨"java/lang/Throwable", "fillInStackTrace", "(I)Ljava/lang/Throwable;"⟩, 6), (⟨"Swarmhall", "known", "(I)LSwarmhall$Peer;"⟩, 5), (⟨"Swarmhall", "find", "(I)LSwarmhall$Peer;"⟩, 5), (⟨"Swarmhall", "runRound", "()I"⟩, 5), (⟨"Swarmhall", "begin", "()V"⟩, 5), (⟨"Swarmhall", "countHolders", "(I)I"⟩, 5), (⟨"Swarmhall", "findChosen", "(LSwarmhall$Peer;)I"⟩, 5), (⟨"Swarmhall", "findInterested", "(LSwarmhall$Peer;)I"⟩, 5), (⟨"Swarmhall", "wantedPieces", "()I"⟩, 5), (⟨"Swarmhall", "findShown", "(LSwarmhall$Peer;LSwarmhall$Peer;)I"⟩, 5), (⟨"Swarmhall", "findRarest", "(II)I"⟩, 5), (⟨"Swarmhall", "findNextInTurn", "(I)I"⟩, 5), (⟨"Swarmhall", "beginShowing", "(LSwarmhall$Peer;)V"⟩, 5), (⟨"Swarmhall", "askAll", "()V"⟩, 5), (⟨"Swarmhall", "askOthers", "(LSwarmhall$Peer;I)V"⟩, 5), (⟨"Swarmhall", "askOne", "(LSwarmhall$Peer;LSwarmhall$Peer;J)V"⟩, 5)]
theorem lw_r1 : ∀ q ∈ lw_privs_1, lw_okq q := List.forall_mem_cons.mpr ⟨lw_p0, List.forall_mem_cons.mpr ⟨lw_p1, List.forall_mem_cons.mpr ⟨lw_p2, List.forall_mem_cons.mpr ⟨lw_p3, List.forall_mem_cons.mpr ⟨lw_p4, List.forall_mem_cons.mpr ⟨lw_p5, List.forall_mem_cons.mpr ⟨lw_p6, List.forall_mem_cons.mpr ⟨lw_p7, List.forall_mem_cons.mpr ⟨lw_p8, List.forall_mem_cons.mpr ⟨lw_p9, List.forall_mem_cons.mpr ⟨lw_p10, List.forall_mem_cons.mpr ⟨lw_p11, List.forall_mem_cons.mpr ⟨lw_p12, List.forall_mem_cons.mpr ⟨lw_p13, List.forall_mem_cons.mpr ⟨lw_p14, List.forall_mem_cons.mpr ⟨lw_p15, fun _ h => absurd h List.not_mem_nil⟩⟩⟩⟩⟩⟩⟩⟩⟩⟩⟩⟩⟩⟩⟩⟩
theorem lw_p16 : lw_okq (⟨"Swarmhall", "findBestPiece", "(LSwarmhall$Peer;J)I"⟩, 5) := ⟨⟨by decide +kernel, by decide +kernel⟩, List.mem_of_getElem? (i := 16) (by decide +kernel), List.mem_of_getElem? (i := 420) (by decide +kernel), List.mem_of_getElem? (i := 421) (by decide +kernel)⟩
theorem lw_p17 : lw_okq (⟨"Swarmhall", "isBetter", "(LSwarmhall$Peer;II)Z"⟩, 5) := ⟨⟨by decide +kernel, by decide +kernel⟩, List.mem_of_getElem? (i := 16) (by decide +kernel), List.mem_of_getElem? (i := 424) (by decide +kernel), List.mem_of_getElem? (i := 425) (by decide +kernel)⟩
theorem lw_p18 : lw_okq (⟨"Swarmhall", "comeAll", "()I"⟩, 5) := ⟨⟨by decide +kernel, by decide +kernel⟩, List.mem_of_getElem? (i := 16) (by decide +kernel), List.mem_of_getElem? (i := 438) (by decide +kernel), List.mem_of_getElem? (i := 439) (by decide +kernel)⟩
theorem lw_p19 : lw_okq (⟨"Swarmhall", "comeTo", "(LSwarmhall$Peer;)I"⟩, 5) := ⟨⟨by decide +kernel, by decide +kernel⟩, List.mem_of_getElem? (i := 16) (by decide +kernel), List.mem_of_getElem? (i := 442) (by decide +kernel), List.mem_of_getElem? (i := 443) (by decide +kernel)⟩
theorem lw_p20 : lw_okq (⟨"SwarmhallModel", "fits", "(I)Z"⟩, 23) := ⟨⟨by decide +kernel, by decide +kernel⟩, List.mem_of_getElem? (i := 562) (by decide +kernel), List.mem_of_getElem? (i := 647) (by decide +kernel), List.mem_of_getElem? (i := 648) (by decide +kernel)⟩
theorem lw_p21 : lw_okq (⟨"SwarmhallModel", "isPeer", "(I)Z"⟩, 23) := ⟨⟨by decide +kernel, by decide +kernel⟩, List.mem_of_getElem? (i := 562) (by decide +kernel), List.mem_of_getElem? (i := 655) (by decide +kernel), List.mem_of_getElem? (i := 656) (by decide +kernel)⟩
theorem lw_p22 : lw_okq (⟨"SwarmhallModel", "looks", "()V"⟩, 23) := ⟨⟨by decide +kernel, by decide +kernel⟩, List.mem_of_getElem? (i := 562) (by decide +kernel), List.mem_of_getElem? (i := 688) (by decide +kernel), List.mem_of_getElem? (i := 689) (by decide +kernel)⟩
theorem lw_p23 : lw_okq (⟨"SwarmhallModel", "choiceOf", "(I)I"⟩, 23) := ⟨⟨by decide +kernel, by decide +kernel⟩, List.mem_of_getElem? (i := 562) (by decide +kernel), List.mem_of_getElem? (i := 692) (by decide +kernel), List.mem_of_getElem? (i := 693) (by decide +kernel)⟩
theorem lw_p24 : lw_okq (⟨"SwarmhallModel", "wants", "(II)Z"⟩, 23) := ⟨⟨by decide +kernel, by decide +kernel⟩, List.mem_of_getElem? (i := 562) (by decide +kernel), List.mem_of_getElem? (i := 696) (by decide +kernel), List.mem_of_getElem? (i := 697) (by decide +kernel)⟩
theorem lw_p25 : lw_okq (⟨"SwarmhallModel", "shownBy", "(II)I"⟩, 23) := ⟨⟨by decide +kernel, by decide +kernel⟩, List.mem_of_getElem? (i := 562) (by decide +kernel), List.mem_of_getElem? (i := 703) (by decide +kernel), List.mem_of_getElem? (i := 704) (by decide +kernel)⟩
theorem lw_p26 : lw_okq (⟨"SwarmhallModel", "holdersOf", "(I)I"⟩, 23) := ⟨⟨by decide +kernel, by decide +kernel⟩, List.mem_of_getElem? (i := 562) (by decide +kernel), List.mem_of_getElem? (i := 707) (by decide +kernel), List.mem_of_getElem? (i := 708) (by decide +kernel)⟩
theorem lw_p27 : lw_okq (⟨"SwarmhallModel", "lackedBy", "(I)I"⟩, 23) := ⟨⟨by decide +kernel, by decide +kernel⟩, List.mem_of_getElem? (i := 562) (by decide +kernel), List.mem_of_getElem? (i := 711) (by decide +kernel), List.mem_of_getElem? (i := 712) (by decide +kernel)⟩
theorem lw_p28 : lw_okq (⟨"SwarmhallModel", "asks", "()V"⟩, 23) := ⟨⟨by decide +kernel, by decide +kernel⟩, List.mem_of_getElem? (i := 562) (by decide +kernel), List.mem_of_getElem? (i := 715) (by decide +kernel), List.mem_of_getElem? (i := 716) (by decide +kernel)⟩
theorem lw_p29 : lw_okq (⟨"SwarmhallModel", "blockFor", "(II)I"⟩, 23) := ⟨⟨by decide +kernel, by decide +kernel⟩, List.mem_of_getElem? (i := 562) (by decide +kernel), List.mem_of_getElem? (i := 719) (by decide +kernel), List.mem_of_getElem? (i := 720) (by decide +kernel)⟩
theorem lw_p30 : lw_okq (⟨"SwarmhallModel", "isBetter", "(III)Z"⟩, 23) := ⟨⟨by decide +kernel, by decide +kernel⟩, List.mem_of_getElem? (i := 562) (by decide +kernel), List.mem_of_getElem? (i := 726) (by decide +kernel), List.mem_of_getElem? (i := 727) (by decide +kernel)⟩
theorem lw_p31 : lw_okq (⟨"SwarmhallModel", "hasAskedAll", "(I)Z"⟩, 23) := ⟨⟨by decide +kernel, by decide +kernel⟩, List.mem_of_getElem? (i := 562) (by decide +kernel), List.mem_of_getElem? (i := 733) (by decide +kernel), List.mem_of_getElem? (i := 734) (by decide +kernel)⟩
def lw_privs_2 : List (MethodName × Nat) := [(⟨"Swarmhall", "findBestPiece", "(LSwarmhall$Peer;J)I"⟩, 5), (⟨"Swarmhall", "isBetter", "(LSwarmhall$Peer;II)Z"⟩, 5), (⟨"Swarmhall", "comeAll", "()I"⟩, 5), (⟨"Swarmhall", "comeTo", "(LSwarmhall$Peer;)I"⟩, 5), (⟨"SwarmhallModel", "fits", "(I)Z"⟩, 23), (⟨"SwarmhallModel", "isPeer", "(I)Z"⟩, 23), (⟨"SwarmhallModel", "looks", "()V"⟩, 23), (⟨"SwarmhallModel", "choiceOf", "(I)I"⟩, 23), (⟨"SwarmhallModel", "wants", "(II)Z"⟩, 23), (⟨"SwarmhallModel", "shownBy", "(II)I"⟩, 23), (⟨"SwarmhallModel", "holdersOf", "(I)I"⟩, 23), (⟨"SwarmhallModel", "lackedBy", "(I)I"⟩, 23), (⟨"SwarmhallModel", "asks", "()V"⟩, 23), (⟨"SwarmhallModel", "blockFor", "(II)I"⟩, 23), (⟨"SwarmhallModel", "isBetter", "(III)Z"⟩, 23), (⟨"SwarmhallModel", "hasAskedAll", "(I)Z"⟩, 23)]
theorem lw_r2 : ∀ q ∈ lw_privs_2, lw_okq q := List.forall_mem_cons.mpr ⟨lw_p16, List.forall_mem_cons.mpr ⟨lw_p17, List.forall_mem_cons.mpr ⟨lw_p18, List.forall_mem_cons.mpr ⟨lw_p19, List.forall_mem_cons.mpr ⟨lw_p20, List.forall_mem_cons.mpr ⟨lw_p21, List.forall_mem_cons.mpr ⟨lw_p22, List.forall_mem_cons.mpr ⟨lw_p23, List.forall_mem_cons.mpr ⟨lw_p24, List.forall_mem_cons.mpr ⟨lw_p25, List.forall_mem_cons.mpr ⟨lw_p26, List.forall_mem_cons.mpr ⟨lw_p27, List.forall_mem_cons.mpr ⟨lw_p28, List.forall_mem_cons.mpr ⟨lw_p29, List.forall_mem_cons.mpr ⟨lw_p30, List.forall_mem_cons.mpr ⟨lw_p31, fun _ h => absurd h List.not_mem_nil⟩⟩⟩⟩⟩⟩⟩⟩⟩⟩⟩⟩⟩⟩⟩⟩
theorem lw_p32 : lw_okq (⟨"SwarmhallModel", "comes", "()I"⟩, 23) := ⟨⟨by decide +kernel, by decide +kernel⟩, List.mem_of_getElem? (i := 562) (by decide +kernel), List.mem_of_getElem? (i := 737) (by decide +kernel), List.mem_of_getElem? (i := 738) (by decide +kernel)⟩
theorem lw_p33 : lw_okq (⟨"SwarmhallModel", "ends", "()V"⟩, 23) := ⟨⟨by decide +kernel, by decide +kernel⟩, List.mem_of_getElem? (i := 562) (by decide +kernel), List.mem_of_getElem? (i := 741) (by decide +kernel), List.mem_of_getElem? (i := 742) (by decide +kernel)⟩
theorem lw_p34 : lw_okq (⟨"SwarmhallModel", "drops", "(II)V"⟩, 23) := ⟨⟨by decide +kernel, by decide +kernel⟩, List.mem_of_getElem? (i := 562) (by decide +kernel), List.mem_of_getElem? (i := 745) (by decide +kernel), List.mem_of_getElem? (i := 746) (by decide +kernel)⟩
theorem lw_p35 : lw_okq (⟨"SwarmhallModel", "arePeers", "(II)Z"⟩, 23) := ⟨⟨by decide +kernel, by decide +kernel⟩, List.mem_of_getElem? (i := 562) (by decide +kernel), List.mem_of_getElem? (i := 777) (by decide +kernel), List.mem_of_getElem? (i := 778) (by decide +kernel)⟩
def lw_privs_3 : List (MethodName × Nat) := [(⟨"SwarmhallModel", "comes", "()I"⟩, 23), (⟨"SwarmhallModel", "ends", "()V"⟩, 23), (⟨"SwarmhallModel", "drops", "(II)V"⟩, 23), (⟨"SwarmhallModel", "arePeers", "(II)Z"⟩, 23)]
theorem lw_r3 : ∀ q ∈ lw_privs_3, lw_okq q := List.forall_mem_cons.mpr ⟨lw_p32, List.forall_mem_cons.mpr ⟨lw_p33, List.forall_mem_cons.mpr ⟨lw_p34, List.forall_mem_cons.mpr ⟨lw_p35, fun _ h => absurd h List.not_mem_nil⟩⟩⟩⟩
def lw_privs : List (MethodName × Nat) := lw_privs_1 ++ (lw_privs_2 ++ (lw_privs_3))
def lw_tbl : List Cond := k2_sels lw_privs ++ tables_1
theorem lw_privs_ok : ∀ q ∈ lw_privs, lw_okq q := by
  show ∀ q ∈ lw_privs_1 ++ (lw_privs_2 ++ (lw_privs_3)), lw_okq q
  exact List.forall_mem_append.mpr ⟨lw_r1, List.forall_mem_append.mpr ⟨lw_r2, lw_r3⟩⟩
-- ===== end of PART A; then your names; then what follows =====
end
section
/-! ===== BEGIN words of one list among another's, by their places ===== -/
theorem goodIn_r {big : List Cond} (ws : List Cond) (ps : List Nat) (hp : ws = ps.filterMap (fun i => big[i]?)) (h : ws.all goodWord = true) : GoodIn big ws := by
  intro w hw
  have h1 := List.all_eq_true.mp h w hw
  rw [hp] at hw
  obtain ⟨i, -, hi⟩ := List.mem_filterMap.mp hw
  have hm : w ∈ big := by first | exact List.mem_of_getElem? hi | exact List.getElem?_mem hi
  exact ⟨hm, good_of_word h1⟩
theorem goodIn_app {big a b : List Cond} (ha : GoodIn big a) (hb : GoodIn big b) : GoodIn big (a ++ b) := fun w h => (List.mem_append.mp h).elim (ha w) (hb w)
theorem goodIn_ca {big a b : List Cond} {c : Cond} (ha : GoodIn big (c :: a)) (hb : GoodIn big b) : GoodIn big (c :: (a ++ b)) := fun w h => (List.mem_cons.mp h).elim (fun e => ha w (List.mem_cons.mpr (Or.inl e))) (fun h => (List.mem_append.mp h).elim (fun h => ha w (List.mem_cons.mpr (Or.inr h))) (hb w))
theorem goodIn_sub {big ws : List Cond} (hm : ∀ w ∈ ws, w ∈ big) (h : ws.all goodWord = true) : GoodIn big ws := fun w hw => ⟨hm w hw, good_of_word (List.all_eq_true.mp h w hw)⟩
/-! ===== END ===== -/
/-! ===== BEGIN exceptions that leave a method, and their catching by the caller (launches without stack traces) ===== -/
section VXA
/-! The laws vx_back, vx_callV, vx_callS, vx_callSW, vx_throw0, vx_throwS follow proofs of the library, with one case more: JvmDerived/Free/Laws.lean (Back.of_free), Shelf42/LK1.lean (callV, callS), Shelf/KitTraced.lean (throwNew0V, throwNewS). -/
/-- where a method has thrown q: the class by its name, the cell, what was written, the world -/
def vx_T (XC : String → State → State → Prop) (st : State) (q : Addr) (t : State) (mc ms : Nat) (free : Addr → Prop) : Prop :=
  ∃ (E : String) (ce : Cell) (L : List Loc), XC E st t ∧ t.heap[q]? = some ce ∧ ce.vm = .none ∧ st.vm.findClass E = some ce.cls ∧ st.WarmedH t.vm ∧ st.sameButNew ({ t with vm := st.vm } : State) L mc ms ∧ ∀ z ∈ L, free z.base
def vx_Q (Qc : Array Value → State → Outcome → State → Prop) (XC : String → State → State → Prop) (mc ms : Nat) (free : Addr → Prop) : Array Value → State → Outcome → State → Prop := fun a st o t =>
  (Qc a st o t ∧ ∃ L, FrameEnd st o t L mc ms ∧ ∀ q ∈ L, free q.base) ∨ ∃ q, o = .threw q ∧ vx_T XC st q t mc ms free
/-- a callee that returns or throws -/
def vx_Met (l : Launch) (y : MethodName) (ws : List Cond) (rm : Room) (Pc : Array Value → State → Prop) (Qc : Array Value → State → Outcome → State → Prop) (XC : String → State → State → Prop) (mc ms : Nat) (free : Addr → Prop) : Prop :=
  MetFree l y (headSpec ws rm) Pc (fun _ _ _ _ _ => True) (vx_Q Qc XC mc ms free)
def vx_Post (XC : String → State → State → Prop) (mc ms : Nat) (free : Addr → Prop) : Pt → Array Value → Addr → Pt → Prop := fun A a q B =>
  ∃ (g : JFrame) (mk : MethodId) (t : State) (L : List Loc) (E : String) (ce : Cell), B.U.heap = t.heap ∧ B.U.vm = t.vm ∧ XC E (A.U.calling g mk a) t ∧ t.heap[q]? = some ce ∧ ce.vm = .none ∧ A.U.vm.findClass E = some ce.cls ∧ B.locs = A.locs ++ L ∧ (∀ z ∈ L, free z.base) ∧ B.cells = A.cells + mc ∧ B.slots = A.slots + ms
def vx_Back (l : Launch) (R : Room) (p : Program) (e : Env) (below : List Frame) (s : State) (sargs : Array Value) (y : MethodName) (len W9 : Nat)
    (Pre : Pt → Array Value → Prop) (Post : Pt → Array Value → Option Value → Pt → Prop) (PostX : Pt → Array Value → Addr → Pt → Prop) : Prop :=
  ∀ (m : MethodId) (meth : Method) (c : Code) (A : Pt) (g : JFrame) (ig : Instr) (mk : MethodId) (a : Array Value),
    Stand p l e R s m sargs below meth c A.U A.locs A.cells A.slots → g.method = m → g.locals.size = c.maxLocals → decode c.code g.pc = .ok (ig, len) →
    2 * g.monitorRoom + (g.stack.map fun v => v.category).sum ≤ W9 → A.U.methodNamed? y = some mk → Pre A a →
    (∃ (v : Option Value) (B : Pt), Stand p l e R s m sargs below meth c B.U B.locs B.cells B.slots ∧ Post A a v B ∧
      Steps p.tables e below (doInvoke e (A.U.setTop g) [] mk a).1 (B.U.setTop { g with pc := g.pc + len, stack := v.toList ++ g.stack })) ∨
    (∃ (q : Addr) (B : Pt), Stand p l e R s m sargs below meth c B.U B.locs B.cells B.slots ∧ PostX A a q B ∧
      Steps p.tables e below (doInvoke e (A.U.setTop g) [] mk a).1 ((B.U.setTop g).pushFrame (.throwing q)))
section Payer
variable {l : Launch} {R : Room} {p : Program} {e : Env} {below : List Frame} {s : State} {sargs : Array Value} {y : MethodName} {len W9 : Nat}
theorem vx_back {ws : List Cond} {rm : Room} {Pc : Array Value → State → Prop} {Qc : Array Value → State → Outcome → State → Prop} {XC : String → State → State → Prop} {mc ms : Nat} {free : Addr → Prop} {bytes : ByteArray} {maxL : Nat} {ret : Option FieldType}
    (hM : vx_Met l y ws rm Pc Qc XC mc ms free) (hblind : FrameBlind Pc) (hrc : rm.cells = mc) (hrs : rm.slots = ms)
    (hframes : rm.frames + 1 ≤ R.frames) (hlocals : W9 + (maxL + 11) + rm.locals ≤ R.locals)
    (hws : ∀ w ∈ ws, ∀ a' U, s.WarmedH U.vm → w.before a' U = true) (hcode : Cond.code y bytes maxL ret ∈ ws) (hinit : ∀ a' U, s.WarmedH U.vm → (Cond.initialized y.cls).before a' U = true) :
    vx_Back l R p e below s sargs y len W9 (PreOf R mc ms Pc) (PostOf Qc mc ms free) (vx_Post XC mc ms free) := by
  intro m meth c A g ig mk a X hg hsize hdg hW hn hp
  have h1 : (headSpec ws rm).pre.before a A.U = true := atoms_intro fun w hw => hws w hw _ _ X.warmed
  have h2 : (Cond.code y bytes maxL ret).before a A.U = true := hws _ hcode _ _ X.warmed
  have h3 : (Cond.initialized y.cls).before a A.U = true := hinit _ _ X.warmed
  have h4 : A.cells + (headSpec ws rm).room.cells ≤ R.cells := by rw [show (headSpec ws rm).room.cells = mc from hrc]; exact hp.1
  have h5 : A.slots + (headSpec ws rm).room.slots ≤ R.slots := by rw [show (headSpec ws rm).room.slots = ms from hrs]; exact hp.2.1
  have hPc : Pc a (A.U.calling g mk a) := hblind _ _ _ _ hp.2.2
  obtain ⟨U, Ls, c0, s0⟩ := A
  dsimp only [Pt.U, Pt.locs, Pt.cells, Pt.slots] at h1 h2 h3 h4 h5 X hn hPc ⊢
  obtain ⟨methY, cY, hmY, hcY, -, hlY, -, -, -, -⟩ := Cond.code_spec hn h2
  obtain ⟨kY, hkY, -⟩ := className_of_methodNamed hn
  have hinitY : kY.init = .initialized := Cond.initialized_spec (findClass_of_methodNamed hn) hkY h3
  have h : At U g.method c below := by rw [hg]; exact X.here
  have hlocals9 : W9 + (maxL + 11) + (headSpec ws rm).room.locals ≤ R.locals := hlocals
  have happ : (headSpec ws rm).appliesLoose y e.platform (U.calling g mk a) = true :=
    Spec.appliesLoose_calling (g := g) h hdg hn hkY hinitY
      (X.room_calling (g := g) (R' := (headSpec ws rm).room) hsize hmY hcY hframes (by rw [hlY]; omega) h4 h5) h1
  obtain ⟨mid, hmid⟩ := h.above
  have hfr : (U.setTop g).frames = (.java g :: mid) ++ below := by rw [State.frames_setTop' g h.top, hmid]; rfl
  obtain ⟨o, s₂, hsteps, -, hend, hq⟩ := Steps.callFree hM p X.admits X.cas X.clock (acts := []) hfr happ hPc trivial
  have hq' : vx_Q Qc XC mc ms free a (U.calling g mk a) o s₂ := hq
  rw [State.frames_setTop' g h.top] at hend
  obtain ⟨g₀, hg0⟩ := Option.isSome_iff_exists.mp h.top
  obtain ⟨r, hr⟩ := State.topJava?_eq_some.mp hg0
  have hr' : (({ U with heap := s₂.heap, slotsUsed := s₂.slotsUsed } : State).setVm s₂.vm).frames = .java g₀ :: r := hr
  rcases hq' with ⟨hqc, L, hfe, hL⟩ | ⟨q, rfl, E, ce, L, hx, hce, hcv, hcl, hW₂, hsm, hL⟩
  · obtain ⟨⟨v, rfl⟩, hW₂, e2, q2, q3, q4, q5, q6⟩ := id hfe
    have e3 : s₂ = ({ (U.calling g mk a).setFrames s₂.frames with heap := s₂.heap, slotsUsed := s₂.slotsUsed } : State).setVm s₂.vm := by
      have : s₂ = ({ s₂ with vm := (U.calling g mk a).vm } : State).setVm s₂.vm := rfl
      rw [e2] at this
      exact this
    obtain ⟨c₂, i₂, len₂, hc₂, hd₂, hf₂⟩ := hend
    have hW' : U.WarmedH s₂.vm := hW₂
    have hcc : c₂ = c := by
      have h1 : s₂.code? g.method = U.code? g.method := by
        rw [State.code?_eq, State.code?_eq, hW'.alike.method?]
      exact Option.some.inj (hc₂.symm.trans (h1.trans h.code))
    subst hcc
    have hlen : len₂ = len := by rw [hdg] at hd₂; cases hd₂; rfl
    subst hlen
    have hs₂ : s₂ = (({ U with heap := s₂.heap, slotsUsed := s₂.slotsUsed } : State).setVm s₂.vm).setTop { g with pc := g.pc + len₂, stack := v.toList ++ g.stack } := by
      refine e3.trans ?_
      rw [hf₂, State.calling_eq h.top, State.setFrames_setFrames, State.setTop_of_frames _ hr', hr]
      rfl
    have hsame : U.sameButNew ({ U with heap := s₂.heap, slotsUsed := s₂.slotsUsed } : State) L mc ms := by
      refine ⟨?_, q2, q3, q4, q5, q6⟩
      obtain ⟨t, ht, -⟩ := State.frames_cons hr
      show ({ U with heap := s₂.heap, slotsUsed := s₂.slotsUsed } : State) = { U.setFrames U.frames with heap := s₂.heap, slotsUsed := s₂.slotsUsed }
      rw [State.setFrames_self ht]
    subst hg
    refine Or.inl ⟨v, ⟨(({ U with heap := s₂.heap, slotsUsed := s₂.slotsUsed } : State).setVm s₂.vm), Ls ++ L, c0 + mc, s0 + ms⟩,
      ⟨X.admits, X.cas, X.clock, X.frames, X.room, X.hears, X.method, X.code, (X.here.setHeapUsed s₂.heap s₂.slotsUsed).setVm hW'.alike, X.tail, State.WarmedH.trans X.warmed hW', X.limits, X.bytes, X.same.trans (hsame.setVm s.vm)⟩,
      ⟨g, mk, s₂, L, rfl, rfl, hqc, rfl, hL, rfl, rfl⟩, ?_⟩
    show Steps p.tables e below _ ((({ U with heap := s₂.heap, slotsUsed := s₂.slotsUsed } : State).setVm s₂.vm).setTop { g with pc := g.pc + len₂, stack := v.toList ++ g.stack })
    rw [← hs₂]
    exact hsteps
  · obtain ⟨e2, q2, q3, q4, q5, q6⟩ := id hsm
    have e3 : s₂ = ({ (U.calling g mk a).setFrames s₂.frames with heap := s₂.heap, slotsUsed := s₂.slotsUsed } : State).setVm s₂.vm := by
      have : s₂ = ({ s₂ with vm := (U.calling g mk a).vm } : State).setVm s₂.vm := rfl
      rw [e2] at this
      exact this
    have hf₂ : s₂.frames = .throwing q :: .java g :: U.frames.tail := hend
    have hW' : U.WarmedH s₂.vm := hW₂
    have hs₂ : s₂ = ((({ U with heap := s₂.heap, slotsUsed := s₂.slotsUsed } : State).setVm s₂.vm).setTop g).pushFrame (.throwing q) := by
      refine e3.trans ?_
      rw [hf₂, State.calling_eq h.top, State.setFrames_setFrames, State.pushFrame, State.frames_setTop _ hr', State.setTop_of_frames _ hr', State.setFrames_setFrames, hr]
      rfl
    have hsame : U.sameButNew ({ U with heap := s₂.heap, slotsUsed := s₂.slotsUsed } : State) L mc ms := by
      refine ⟨?_, q2, q3, q4, q5, q6⟩
      obtain ⟨t, ht, -⟩ := State.frames_cons hr
      show ({ U with heap := s₂.heap, slotsUsed := s₂.slotsUsed } : State) = { U.setFrames U.frames with heap := s₂.heap, slotsUsed := s₂.slotsUsed }
      rw [State.setFrames_self ht]
    subst hg
    refine Or.inr ⟨q, ⟨(({ U with heap := s₂.heap, slotsUsed := s₂.slotsUsed } : State).setVm s₂.vm), Ls ++ L, c0 + mc, s0 + ms⟩,
      ⟨X.admits, X.cas, X.clock, X.frames, X.room, X.hears, X.method, X.code, (X.here.setHeapUsed s₂.heap s₂.slotsUsed).setVm hW'.alike, X.tail, State.WarmedH.trans X.warmed hW', X.limits, X.bytes, X.same.trans (hsame.setVm s.vm)⟩,
      ⟨g, mk, s₂, L, E, ce, rfl, rfl, hx, hce, hcv, hcl, rfl, hL, rfl, rfl⟩, ?_⟩
    show Steps p.tables e below _ (((({ U with heap := s₂.heap, slotsUsed := s₂.slotsUsed } : State).setVm s₂.vm).setTop g).pushFrame (.throwing q))
    rw [← hs₂]
    exact hsteps
end Payer
section Calls
variable {p : Program} {l : Launch} {e : Env} {R : Room} {s : State} {m : MethodId} {args : Array Value} {below : List Frame} {meth : Method} {c : Code} {T : State} {locs : List Loc} {cells slots : Nat}
theorem vx_callV (X : Stand p l e R s m args below meth c T locs cells slots) (hexec : p.tables.exec = Jvm.exec) {own C : String} {index : Nat} {y : MethodName} {bytes : ByteArray} {maxL : Nat} {ret : Option FieldType}
    (hown : s.vm.findClass own = some m.cls) (hlink : (Cond.methodLink own index y).before args s = true) (hinst : (Cond.instanceMethod y).before args s = true) (hsel : (Cond.selects C y y).before args s = true)
    (hcode : (Cond.code y bytes maxL ret).before args s = true) (hy : y.cls ≠ "java/lang/invoke/MethodHandle" ∧ y.cls ≠ "java/lang/invoke/VarHandle")
    {W9 : Nat} {Pre : Pt → Array Value → Prop} {Post : Pt → Array Value → Option Value → Pt → Prop} {PostX : Pt → Array Value → Addr → Pt → Prop} (hK : vx_Back l R p e below s args y 3 W9 Pre Post PostX)
    {b : Addr} {cellB : Cell} (hcell : T.heap[b]? = some cellB) (hobj : cellB.vm.isStatics = false) (hcls : s.vm.findClass C = some cellB.cls)
    {g : JFrame} (hg : g.method = m) (hsize : g.locals.size = c.maxLocals) {argsL rest : List Value} (hlen : ∀ sig, parseMethodDescriptor y.desc = some sig → argsL.length = sig.parameters.length)
    (hstack : g.stack = argsL.reverse ++ .ref b :: rest) (hW : 2 * g.monitorRoom + (rest.map fun v => v.category).sum ≤ W9) (hdg : decode c.code g.pc = .ok (.invokevirtual index, 3))
    (hpre : ∀ vm₁, s.WarmedH vm₁ → Pre ⟨T.setVm vm₁, locs, cells, slots⟩ (Value.ref b :: argsL).toArray) :
    (∃ (v : Option Value) (vm₁ : Vm) (B : Pt), s.WarmedH vm₁ ∧ Stand p l e R s m args below meth c B.U B.locs B.cells B.slots ∧ Post ⟨T.setVm vm₁, locs, cells, slots⟩ (Value.ref b :: argsL).toArray v B ∧
      ∀ target, Steps p.tables e below (B.U.setTop { g with pc := g.pc + 3, stack := v.toList ++ rest }) target → Steps p.tables e below (T.setTop g) target) ∨
    (∃ (q : Addr) (vm₁ : Vm) (B : Pt), s.WarmedH vm₁ ∧ Stand p l e R s m args below meth c B.U B.locs B.cells B.slots ∧ PostX ⟨T.setVm vm₁, locs, cells, slots⟩ (Value.ref b :: argsL).toArray q B ∧
      Steps p.tables e below (T.setTop g) ((B.U.setTop { g with stack := rest }).pushFrame (.throwing q))) := by
  obtain ⟨mk, methM, hnamed, hmethM, hstM, habM⟩ := Cond.instanceMethod_spec hinst
  obtain ⟨methM', cM, hmethM', -, -, -, -, -, -, hsigM⟩ := Cond.code_spec hnamed hcode
  cases hmethM.symm.trans hmethM'
  obtain ⟨c2, r2, m2, q1, q2, q3, q4, kP, hkP, hkPi⟩ := Cond.selects_spec hsel
  cases hcls.symm.trans q1
  cases (State.methodFound?_of_named hnamed hy).symm.trans q2
  cases hnamed.symm.trans q3
  have hselP : selectMethod e.platform s.vm cellB.cls mk = .method mk := by rw [Launch.admits_selectMethod X.admits]; exact q4
  obtain ⟨vm₁, X₁, hstep₁⟩ := X.invokevirtual hexec hown hlink hnamed hmethM hstM hkP hkPi hy (a := b) (cell := cellB) hcell
    (fun z h => by rw [h] at hobj; cases hobj) hselP hmethM habM hkP hkPi (g := g) hg (argsL := argsL) (rest := rest) (hlen _ hsigM) hstack hdg
  rcases hK m meth c ⟨T.setVm vm₁, locs, cells, slots⟩ { g with stack := rest } (.invokevirtual index) mk (Value.ref b :: argsL).toArray X₁ hg hsize hdg hW (X₁.named hnamed) (hpre vm₁ X₁.warmed) with ⟨v, B, X', hpost, hsteps⟩ | ⟨q, B, X', hpost, hsteps⟩
  · exact Or.inl ⟨v, vm₁, B, X₁.warmed, X', hpost, fun target h => hstep₁ _ fun acts => by rw [doInvoke_state]; exact hsteps.trans h⟩
  · exact Or.inr ⟨q, vm₁, B, X₁.warmed, X', hpost, hstep₁ _ fun acts => by rw [doInvoke_state]; exact hsteps⟩
theorem vx_callS (X : Stand p l e R s m args below meth c T locs cells slots) (hexec : p.tables.exec = Jvm.exec) {own : String} {index : Nat} {y : MethodName} {bytes : ByteArray} {maxL : Nat} {ret : Option FieldType}
    (hown : s.vm.findClass own = some m.cls) (hlink : (Cond.methodLink own index y).before args s = true) (hstat : (Cond.static y).before args s = true) (hinit : (Cond.initialized y.cls).before args s = true)
    (hcode : (Cond.code y bytes maxL ret).before args s = true) (hy : y.cls ≠ "java/lang/invoke/MethodHandle" ∧ y.cls ≠ "java/lang/invoke/VarHandle")
    {W9 : Nat} {Pre : Pt → Array Value → Prop} {Post : Pt → Array Value → Option Value → Pt → Prop} {PostX : Pt → Array Value → Addr → Pt → Prop} (hK : vx_Back l R p e below s args y 3 W9 Pre Post PostX)
    {g : JFrame} (hg : g.method = m) (hsize : g.locals.size = c.maxLocals) {argsL rest : List Value} (hlen : ∀ sig, parseMethodDescriptor y.desc = some sig → argsL.length = sig.parameters.length)
    (hstack : g.stack = argsL.reverse ++ rest) (hW : 2 * g.monitorRoom + (rest.map fun v => v.category).sum ≤ W9) (hdg : decode c.code g.pc = .ok (.invokestatic index, 3))
    (hpre : ∀ vm₁, s.WarmedH vm₁ → Pre ⟨T.setVm vm₁, locs, cells, slots⟩ argsL.toArray) :
    (∃ (v : Option Value) (vm₁ : Vm) (B : Pt), s.WarmedH vm₁ ∧ Stand p l e R s m args below meth c B.U B.locs B.cells B.slots ∧ Post ⟨T.setVm vm₁, locs, cells, slots⟩ argsL.toArray v B ∧
      ∀ target, Steps p.tables e below (B.U.setTop { g with pc := g.pc + 3, stack := v.toList ++ rest }) target → Steps p.tables e below (T.setTop g) target) ∨
    (∃ (q : Addr) (vm₁ : Vm) (B : Pt), s.WarmedH vm₁ ∧ Stand p l e R s m args below meth c B.U B.locs B.cells B.slots ∧ PostX ⟨T.setVm vm₁, locs, cells, slots⟩ argsL.toArray q B ∧
      Steps p.tables e below (T.setTop g) ((B.U.setTop { g with stack := rest }).pushFrame (.throwing q))) := by
  obtain ⟨mk, hnamed⟩ := Cond.code_named hcode
  obtain ⟨methM, cM, hmethM, -, -, -, -, -, -, hsigM⟩ := Cond.code_spec hnamed hcode
  have hstatic : methM.isStatic = true := Cond.static_spec hnamed hmethM hstat
  obtain ⟨kP, hkP, -⟩ := className_of_methodNamed hnamed
  have hinitP : kP.init = .initialized := Cond.initialized_spec (findClass_of_methodNamed hnamed) hkP hinit
  obtain ⟨vm₁, X₁, hstep₁⟩ := X.invokestatic hexec hown hlink hnamed hmethM hstatic hkP hinitP hy (g := g) hg (argsL := argsL) (rest := rest) (hlen _ hsigM) hstack hdg
  rcases hK m meth c ⟨T.setVm vm₁, locs, cells, slots⟩ { g with stack := rest } (.invokestatic index) mk argsL.toArray X₁ hg hsize hdg hW (X₁.named hnamed) (hpre vm₁ X₁.warmed) with ⟨v, B, X', hpost, hsteps⟩ | ⟨q, B, X', hpost, hsteps⟩
  · exact Or.inl ⟨v, vm₁, B, X₁.warmed, X', hpost, fun target h => hstep₁ _ fun acts => by rw [doInvoke_state]; exact hsteps.trans h⟩
  · exact Or.inr ⟨q, vm₁, B, X₁.warmed, X', hpost, hstep₁ _ fun acts => by rw [doInvoke_state]; exact hsteps⟩
end Calls
theorem vx_cls {s : State} {T : State} {vm₁ : Vm} {E : String} {k : ClassId} (hW : s.WarmedH vm₁) (h : (T.setVm vm₁).vm.findClass E = some k) : s.vm.findClass E = some k := by
  have h1 : vm₁.findClass E = some k := h
  rw [hW.alike.findClass] at h1
  exact h1
/-- the method's frame g, with q thrown over it -/
def vx_W (p : Program) (l : Launch) (e : Env) (R : Room) (s : State) (m : MethodId) (args : Array Value) (below : List Frame) (meth : Method) (c : Code) (H : Heap) (locs : List Loc) (cells slots : Nat) (Q : State → Prop) (g : JFrame) (q : Addr) : Prop :=
  ∀ T : State, T.heap = H → Stand p l e R s m args below meth c T locs cells slots → ∃ t, Steps p.tables e below ((T.setTop g).pushFrame (.throwing q)) t ∧ Q t
def vx_Run (p : Program) (l : Launch) (e : Env) (R : Room) (s : State) (m : MethodId) (args : Array Value) (below : List Frame) (meth : Method) (c : Code) (H : Heap) (locs : List Loc) (cells slots mc ms : Nat) (g : JFrame) (rest : List Value) (Qa : State → Outcome → State → Prop) (XC : String → State → State → Prop) (free : Addr → Prop) : Prop :=
  ∀ T : State, T.heap = H → Stand p l e R s m args below meth c T locs cells slots →
    (∃ (v : Option Value) (st₀ t T' : State) (L : List Loc), st₀.heap = H ∧ Stand p l e R s m args below meth c T' (locs ++ L) (cells + mc) (slots + ms) ∧ (∀ q ∈ L, free q.base) ∧ T'.heap = t.heap ∧ T'.vm = t.vm ∧ Qa st₀ (.returned v) t ∧
      Goes p e below T g T' { g with pc := g.pc + 3, stack := v.toList ++ rest }) ∨
    (∃ (q : Addr) (st₀ t T' : State) (L : List Loc) (E : String) (ce : Cell), st₀.heap = H ∧ Stand p l e R s m args below meth c T' (locs ++ L) (cells + mc) (slots + ms) ∧ (∀ z ∈ L, free z.base) ∧ T'.heap = t.heap ∧ T'.vm = t.vm ∧ XC E st₀ t ∧ t.heap[q]? = some ce ∧ ce.vm = .none ∧ s.vm.findClass E = some ce.cls ∧
      Steps p.tables e below (T.setTop g) ((T'.setTop { g with stack := rest }).pushFrame (.throwing q)))
def vx_X {S : Type} (px : S → Prop) (B : String → S → State → Prop) (A : Nat → Prop) : String → State → State → Prop := fun E st t => ∃ u : S, px u ∧ B E u t ∧ va_F A st t
section Runs
variable {p : Program} {l : Launch} {e : Env} {R : Room} {s : State} {m : MethodId} {args : Array Value} {below : List Frame} {meth : Method} {c : Code} {H : Heap} {locs : List Loc} {cells slots : Nat}
variable {y : MethodName} {bytes cc : ByteArray} {maxL nL mc ms n index : Nat} {ret : Option FieldType} {ws : List Cond} {rm : Room} {Pc : Array Value → State → Prop} {Qc : Array Value → State → Outcome → State → Prop} {XC : String → State → State → Prop} {free : Addr → Prop} {Ts : List Cond} {own C : String} {b : Addr} {As rest : List Value} {g : JFrame}
theorem vx_callBack (cb : CallB R s args own index y bytes maxL ret ws rm mc ms n) (hM : vx_Met l y ws rm Pc Qc XC mc ms free) (hbl : FrameBlind Pc) : vx_Back l R p e below s args y 3 8 (PreOf R mc ms Pc) (PostOf Qc mc ms free) (vx_Post XC mc ms free) := by
  obtain ⟨hrc, hrs, hfr, hlo, hws, hcw, -, hini, -⟩ := cb
  exact vx_back (bytes := bytes) (maxL := maxL) (ret := ret) hM hbl hrc hrs hfr hlo hws hcw (fun a' U hW => word_at hW (Or.inl (by first | rfl | simp [Cond.onTables, Cond.keeps, Cond.steady])) hini)
theorem vx_runV (S : CallFix p m c cc nL s args Ts own) (hM : vx_Met l y ws rm Pc Qc XC mc ms free) (cw : CallW R s args own C index y bytes maxL ret ws rm mc ms n) (hp : PreV s H C b Pc As)
    (hg : g.method = m) (hn : As.length = n) (hsize : g.locals.size = nL) (hstack : g.stack = As.reverse ++ .ref b :: rest) (hW : 2 * g.monitorRoom + (rest.map fun v => v.category).sum ≤ 8) (hdg : decode cc g.pc = .ok (.invokevirtual index, 3)) (hf : cells + mc ≤ R.cells ∧ slots + ms ≤ R.slots) :
    vx_Run p l e R s m args below meth c H locs cells slots mc ms g rest (Qc (Value.ref b :: As).toArray) XC free := by
  have hK : vx_Back l R p e below s args y 3 8 (PreOf R mc ms Pc) (PostOf Qc mc ms free) (vx_Post XC mc ms free) := vx_callBack cw.1 hM hp.1
  obtain ⟨⟨-, -, -, -, -, -, hcode, -, hy, hlen, hl⟩, hin, hse⟩ := cw
  obtain ⟨hx, hb, hml, ho, -⟩ := S
  obtain ⟨-, ⟨cellB, hcB, hoB, hclB⟩, hPc⟩ := hp
  intro T hT X
  rcases vx_callV X hx (C := C) (bytes := bytes) (maxL := maxL) (ret := ret) ho hl hin hse hcode hy hK (by rw [hT]; exact hcB) hoB hclB hg (hsize.trans hml.symm) (argsL := As) (rest := rest) (fun sig h => hn.trans (hlen sig h)) hstack hW (by rw [hb]; exact hdg)
    (fun vm₁ hW₁ => ⟨hf.1, hf.2, hPc (T.setVm vm₁) hT hW₁⟩) with ⟨v, vm₁, ⟨U', l2, c2, s2⟩, hW₁, X', ⟨g', mk, t, L, e1, e2, hq, h1, hL, h2, h3⟩, st⟩ | ⟨q, vm₁, ⟨U', l2, c2, s2⟩, hW₁, X', ⟨g', mk, t, L, E, ce, e1, e2, hq, hce, hcv, hcl, h1, hL, h2, h3⟩, st⟩
  · dsimp only [Pt.U, Pt.locs, Pt.cells, Pt.slots] at X' e1 e2 h1 h2 h3 st
    subst h1; subst h2; subst h3
    exact Or.inl ⟨v, (T.setVm vm₁).calling g' mk (Value.ref b :: As).toArray, t, U', L, hT, X', hL, e1, e2, hq, st⟩
  · dsimp only [Pt.U, Pt.locs, Pt.cells, Pt.slots] at X' e1 e2 h1 h2 h3 st hcl
    subst h1; subst h2; subst h3
    exact Or.inr ⟨q, (T.setVm vm₁).calling g' mk (Value.ref b :: As).toArray, t, U', L, E, ce, hT, X', hL, e1, e2, hq, hce, hcv, vx_cls hW₁ hcl, st⟩
theorem vx_runS (S : CallFix p m c cc nL s args Ts own) (hM : vx_Met l y ws rm Pc Qc XC mc ms free) (cw : CallB R s args own index y bytes maxL ret ws rm mc ms n ∧ (Cond.static y).before args s = true) (hp : PreS s H Pc As)
    (hg : g.method = m) (hn : As.length = n) (hsize : g.locals.size = nL) (hstack : g.stack = As.reverse ++ rest) (hW : 2 * g.monitorRoom + (rest.map fun v => v.category).sum ≤ 8) (hdg : decode cc g.pc = .ok (.invokestatic index, 3)) (hf : cells + mc ≤ R.cells ∧ slots + ms ≤ R.slots) :
    vx_Run p l e R s m args below meth c H locs cells slots mc ms g rest (Qc As.toArray) XC free := by
  have hK : vx_Back l R p e below s args y 3 8 (PreOf R mc ms Pc) (PostOf Qc mc ms free) (vx_Post XC mc ms free) := vx_callBack cw.1 hM hp.1
  obtain ⟨⟨-, -, -, -, -, -, hcode, hini, hy, hlen, hl⟩, hstt⟩ := cw
  obtain ⟨hx, hb, hml, ho, -⟩ := S
  intro T hT X
  rcases vx_callS X hx (bytes := bytes) (maxL := maxL) (ret := ret) ho hl hstt hini hcode hy hK hg (hsize.trans hml.symm) (argsL := As) (rest := rest) (fun sig h => hn.trans (hlen sig h)) hstack hW (by rw [hb]; exact hdg)
    (fun vm₁ hW₁ => ⟨hf.1, hf.2, hp.2 (T.setVm vm₁) hT hW₁⟩) with ⟨v, vm₁, ⟨U', l2, c2, s2⟩, hW₁, X', ⟨g', mk, t, L, e1, e2, hq, h1, hL, h2, h3⟩, st⟩ | ⟨q, vm₁, ⟨U', l2, c2, s2⟩, hW₁, X', ⟨g', mk, t, L, E, ce, e1, e2, hq, hce, hcv, hcl, h1, hL, h2, h3⟩, st⟩
  · dsimp only [Pt.U, Pt.locs, Pt.cells, Pt.slots] at X' e1 e2 h1 h2 h3 st
    subst h1; subst h2; subst h3
    exact Or.inl ⟨v, (T.setVm vm₁).calling g' mk As.toArray, t, U', L, hT, X', hL, e1, e2, hq, st⟩
  · dsimp only [Pt.U, Pt.locs, Pt.cells, Pt.slots] at X' e1 e2 h1 h2 h3 st hcl
    subst h1; subst h2; subst h3
    exact Or.inr ⟨q, (T.setVm vm₁).calling g' mk As.toArray, t, U', L, E, ce, hT, X', hL, e1, e2, hq, hce, hcv, vx_cls hW₁ hcl, st⟩
end Runs
section Rows
variable {p : Program} {l : Launch} {e : Env} {R : Room} {s : State} {m : MethodId} {args : Array Value} {below : List Frame} {meth : Method} {c : Code} {H : Heap} {locs : List Loc} {cells slots : Nat} {Q : State → Prop}
variable {mc ms : Nat} {free : Addr → Prop} {A0 A1 : Nat → Prop} {H0 : Heap} {a : Array Value} {pc : Nat} {ls : Array Slot} {st0 rest : List Value}
theorem vx_keep {st₀ t T' : State} {L : List Loc} (h0 : st₀.heap = H) (e1 : T'.heap = t.heap) (hS : va_S A0 H0 H locs) (hA : ∀ q, q < H.size → A1 q → A0 q) (hf : ∀ q, free q → A0 q) (hL : ∀ q ∈ L, free q.base) (hF : va_F A1 st₀ t) :
    H.size ≤ T'.heap.size ∧ (∀ q : Nat, q < H.size → ¬ A1 q → T'.heap[q]? = H[q]?) ∧ va_S A0 H0 T'.heap (locs ++ L) := by
  obtain ⟨hz, hk⟩ := hF
  rw [h0] at hz hk
  exact ⟨by rw [e1]; exact hz, fun q h1 h2 => by rw [e1]; exact hk q h1 h2,
    ⟨Nat.le_trans hS.1 (by rw [e1]; exact hz), fun q h1 h2 => by rw [e1, hk q (Nat.lt_of_lt_of_le h1 hS.1) (fun z => h2 (hA q (Nat.lt_of_lt_of_le h1 hS.1) z))]; exact hS.2.1 q h1 h2, fun q hq => by
      rcases List.mem_append.mp hq with h | h
      · exact hS.2.2 q h
      · exact hf _ (hL q h)⟩⟩
theorem vx_calli {S SX : Type} {post : Int32 → S → Prop} {px : SX → Prop} {B : S → State → Prop} {BX : String → SX → State → Prop} {AX : Nat → Prop} (hr : vx_Run p l e R s m args below meth c H locs cells slots mc ms (F0 m pc ls st0) rest (va_Qi post B A1 a) (vx_X px BX AX) free) (hS : va_S A0 H0 H locs) (hA : ∀ q, q < H.size → A1 q → A0 q) (hf : ∀ q, free q → A0 q) (hAX : ∀ q, q < H.size → AX q → A0 q)
    (kx : ∀ (E : String) (ce : Cell) (q9 : Addr) (u : SX) (t : State) (H1 : Heap) (locs1 : List Loc), t.heap = H1 → s.vm.Alike t.vm → px u → BX E u t → H.size ≤ H1.size → (∀ q : Nat, q < H.size → ¬ AX q → H1[q]? = H[q]?) → va_S A0 H0 H1 locs1 → H1[q9]? = some ce → ce.vm = .none → s.vm.findClass E = some ce.cls → vx_W p l e R s m args below meth c H1 locs1 (cells + mc) (slots + ms) Q (F0 m pc ls rest) q9)
    (kk : ∀ (r : Int32) (u : S) (t : State) (H1 : Heap) (locs1 : List Loc), t.heap = H1 → s.vm.Alike t.vm → post r u → B u t → H.size ≤ H1.size → (∀ q : Nat, q < H.size → ¬ A1 q → H1[q]? = H[q]?) → va_S A0 H0 H1 locs1 → W p l e R s m args below meth c H1 locs1 (cells + mc) (slots + ms) Q (F0 m (pc + 3) ls (.int r :: rest))) : W p l e R s m args below meth c H locs cells slots Q (F0 m pc ls st0) := by
  intro T hT X
  rcases hr T hT X with ⟨v, st₀, t, T', L, h0, X', hL, e1, e2, ⟨⟨r, u, hv, hp, hb⟩, hF⟩, st⟩ | ⟨q, st₀, t, T', L, E, ce, h0, X', hL, e1, e2, ⟨u, hp, hb, hF⟩, hce, hcv, hcl, st⟩
  · cases hv
    obtain ⟨k1, k2, k3⟩ := vx_keep h0 e1 hS hA hf hL hF
    obtain ⟨t2, a1, b1⟩ := kk r u t T'.heap (locs ++ L) e1.symm (by rw [← e2]; exact X'.warmed.alike) hp hb k1 k2 k3 T' rfl X'
    exact ⟨t2, st t2 a1, b1⟩
  · obtain ⟨k1, k2, k3⟩ := vx_keep h0 e1 hS hAX hf hL hF
    obtain ⟨t2, a1, b1⟩ := kx E ce q u t T'.heap (locs ++ L) e1.symm (by rw [← e2]; exact X'.warmed.alike) hp hb k1 k2 k3 (by rw [e1]; exact hce) hcv hcl T' rfl X'
    exact ⟨t2, st.trans a1, b1⟩
theorem vx_calll {S SX : Type} {post : Int64 → S → Prop} {px : SX → Prop} {B : S → State → Prop} {BX : String → SX → State → Prop} {AX : Nat → Prop} (hr : vx_Run p l e R s m args below meth c H locs cells slots mc ms (F0 m pc ls st0) rest (va_Ql post B A1 a) (vx_X px BX AX) free) (hS : va_S A0 H0 H locs) (hA : ∀ q, q < H.size → A1 q → A0 q) (hf : ∀ q, free q → A0 q) (hAX : ∀ q, q < H.size → AX q → A0 q)
    (kx : ∀ (E : String) (ce : Cell) (q9 : Addr) (u : SX) (t : State) (H1 : Heap) (locs1 : List Loc), t.heap = H1 → s.vm.Alike t.vm → px u → BX E u t → H.size ≤ H1.size → (∀ q : Nat, q < H.size → ¬ AX q → H1[q]? = H[q]?) → va_S A0 H0 H1 locs1 → H1[q9]? = some ce → ce.vm = .none → s.vm.findClass E = some ce.cls → vx_W p l e R s m args below meth c H1 locs1 (cells + mc) (slots + ms) Q (F0 m pc ls rest) q9)
    (kk : ∀ (r : Int64) (u : S) (t : State) (H1 : Heap) (locs1 : List Loc), t.heap = H1 → s.vm.Alike t.vm → post r u → B u t → H.size ≤ H1.size → (∀ q : Nat, q < H.size → ¬ A1 q → H1[q]? = H[q]?) → va_S A0 H0 H1 locs1 → W p l e R s m args below meth c H1 locs1 (cells + mc) (slots + ms) Q (F0 m (pc + 3) ls (.long r :: rest))) : W p l e R s m args below meth c H locs cells slots Q (F0 m pc ls st0) := by
  intro T hT X
  rcases hr T hT X with ⟨v, st₀, t, T', L, h0, X', hL, e1, e2, ⟨⟨r, u, hv, hp, hb⟩, hF⟩, st⟩ | ⟨q, st₀, t, T', L, E, ce, h0, X', hL, e1, e2, ⟨u, hp, hb, hF⟩, hce, hcv, hcl, st⟩
  · cases hv
    obtain ⟨k1, k2, k3⟩ := vx_keep h0 e1 hS hA hf hL hF
    obtain ⟨t2, a1, b1⟩ := kk r u t T'.heap (locs ++ L) e1.symm (by rw [← e2]; exact X'.warmed.alike) hp hb k1 k2 k3 T' rfl X'
    exact ⟨t2, st t2 a1, b1⟩
  · obtain ⟨k1, k2, k3⟩ := vx_keep h0 e1 hS hAX hf hL hF
    obtain ⟨t2, a1, b1⟩ := kx E ce q u t T'.heap (locs ++ L) e1.symm (by rw [← e2]; exact X'.warmed.alike) hp hb k1 k2 k3 (by rw [e1]; exact hce) hcv hcl T' rfl X'
    exact ⟨t2, st.trans a1, b1⟩
theorem vx_callf {S SX : Type} {post : UInt32 → S → Prop} {px : SX → Prop} {B : S → State → Prop} {BX : String → SX → State → Prop} {AX : Nat → Prop} (hr : vx_Run p l e R s m args below meth c H locs cells slots mc ms (F0 m pc ls st0) rest (va_Qf post B A1 a) (vx_X px BX AX) free) (hS : va_S A0 H0 H locs) (hA : ∀ q, q < H.size → A1 q → A0 q) (hf : ∀ q, free q → A0 q) (hAX : ∀ q, q < H.size → AX q → A0 q)
    (kx : ∀ (E : String) (ce : Cell) (q9 : Addr) (u : SX) (t : State) (H1 : Heap) (locs1 : List Loc), t.heap = H1 → s.vm.Alike t.vm → px u → BX E u t → H.size ≤ H1.size → (∀ q : Nat, q < H.size → ¬ AX q → H1[q]? = H[q]?) → va_S A0 H0 H1 locs1 → H1[q9]? = some ce → ce.vm = .none → s.vm.findClass E = some ce.cls → vx_W p l e R s m args below meth c H1 locs1 (cells + mc) (slots + ms) Q (F0 m pc ls rest) q9)
    (kk : ∀ (r : UInt32) (u : S) (t : State) (H1 : Heap) (locs1 : List Loc), t.heap = H1 → s.vm.Alike t.vm → post r u → B u t → H.size ≤ H1.size → (∀ q : Nat, q < H.size → ¬ A1 q → H1[q]? = H[q]?) → va_S A0 H0 H1 locs1 → W p l e R s m args below meth c H1 locs1 (cells + mc) (slots + ms) Q (F0 m (pc + 3) ls (.float r :: rest))) : W p l e R s m args below meth c H locs cells slots Q (F0 m pc ls st0) := by
  intro T hT X
  rcases hr T hT X with ⟨v, st₀, t, T', L, h0, X', hL, e1, e2, ⟨⟨r, u, hv, hp, hb⟩, hF⟩, st⟩ | ⟨q, st₀, t, T', L, E, ce, h0, X', hL, e1, e2, ⟨u, hp, hb, hF⟩, hce, hcv, hcl, st⟩
  · cases hv
    obtain ⟨k1, k2, k3⟩ := vx_keep h0 e1 hS hA hf hL hF
    obtain ⟨t2, a1, b1⟩ := kk r u t T'.heap (locs ++ L) e1.symm (by rw [← e2]; exact X'.warmed.alike) hp hb k1 k2 k3 T' rfl X'
    exact ⟨t2, st t2 a1, b1⟩
  · obtain ⟨k1, k2, k3⟩ := vx_keep h0 e1 hS hAX hf hL hF
    obtain ⟨t2, a1, b1⟩ := kx E ce q u t T'.heap (locs ++ L) e1.symm (by rw [← e2]; exact X'.warmed.alike) hp hb k1 k2 k3 (by rw [e1]; exact hce) hcv hcl T' rfl X'
    exact ⟨t2, st.trans a1, b1⟩
theorem vx_calld {S SX : Type} {post : UInt64 → S → Prop} {px : SX → Prop} {B : S → State → Prop} {BX : String → SX → State → Prop} {AX : Nat → Prop} (hr : vx_Run p l e R s m args below meth c H locs cells slots mc ms (F0 m pc ls st0) rest (va_Qd post B A1 a) (vx_X px BX AX) free) (hS : va_S A0 H0 H locs) (hA : ∀ q, q < H.size → A1 q → A0 q) (hf : ∀ q, free q → A0 q) (hAX : ∀ q, q < H.size → AX q → A0 q)
    (kx : ∀ (E : String) (ce : Cell) (q9 : Addr) (u : SX) (t : State) (H1 : Heap) (locs1 : List Loc), t.heap = H1 → s.vm.Alike t.vm → px u → BX E u t → H.size ≤ H1.size → (∀ q : Nat, q < H.size → ¬ AX q → H1[q]? = H[q]?) → va_S A0 H0 H1 locs1 → H1[q9]? = some ce → ce.vm = .none → s.vm.findClass E = some ce.cls → vx_W p l e R s m args below meth c H1 locs1 (cells + mc) (slots + ms) Q (F0 m pc ls rest) q9)
    (kk : ∀ (r : UInt64) (u : S) (t : State) (H1 : Heap) (locs1 : List Loc), t.heap = H1 → s.vm.Alike t.vm → post r u → B u t → H.size ≤ H1.size → (∀ q : Nat, q < H.size → ¬ A1 q → H1[q]? = H[q]?) → va_S A0 H0 H1 locs1 → W p l e R s m args below meth c H1 locs1 (cells + mc) (slots + ms) Q (F0 m (pc + 3) ls (.double r :: rest))) : W p l e R s m args below meth c H locs cells slots Q (F0 m pc ls st0) := by
  intro T hT X
  rcases hr T hT X with ⟨v, st₀, t, T', L, h0, X', hL, e1, e2, ⟨⟨r, u, hv, hp, hb⟩, hF⟩, st⟩ | ⟨q, st₀, t, T', L, E, ce, h0, X', hL, e1, e2, ⟨u, hp, hb, hF⟩, hce, hcv, hcl, st⟩
  · cases hv
    obtain ⟨k1, k2, k3⟩ := vx_keep h0 e1 hS hA hf hL hF
    obtain ⟨t2, a1, b1⟩ := kk r u t T'.heap (locs ++ L) e1.symm (by rw [← e2]; exact X'.warmed.alike) hp hb k1 k2 k3 T' rfl X'
    exact ⟨t2, st t2 a1, b1⟩
  · obtain ⟨k1, k2, k3⟩ := vx_keep h0 e1 hS hAX hf hL hF
    obtain ⟨t2, a1, b1⟩ := kx E ce q u t T'.heap (locs ++ L) e1.symm (by rw [← e2]; exact X'.warmed.alike) hp hb k1 k2 k3 (by rw [e1]; exact hce) hcv hcl T' rfl X'
    exact ⟨t2, st.trans a1, b1⟩
theorem vx_callv {S SX : Type} {post : S → Prop} {px : SX → Prop} {B : S → State → Prop} {BX : String → SX → State → Prop} {AX : Nat → Prop} (hr : vx_Run p l e R s m args below meth c H locs cells slots mc ms (F0 m pc ls st0) rest (va_Qv post B A1 a) (vx_X px BX AX) free) (hS : va_S A0 H0 H locs) (hA : ∀ q, q < H.size → A1 q → A0 q) (hf : ∀ q, free q → A0 q) (hAX : ∀ q, q < H.size → AX q → A0 q)
    (kx : ∀ (E : String) (ce : Cell) (q9 : Addr) (u : SX) (t : State) (H1 : Heap) (locs1 : List Loc), t.heap = H1 → s.vm.Alike t.vm → px u → BX E u t → H.size ≤ H1.size → (∀ q : Nat, q < H.size → ¬ AX q → H1[q]? = H[q]?) → va_S A0 H0 H1 locs1 → H1[q9]? = some ce → ce.vm = .none → s.vm.findClass E = some ce.cls → vx_W p l e R s m args below meth c H1 locs1 (cells + mc) (slots + ms) Q (F0 m pc ls rest) q9)
    (kk : ∀ (u : S) (t : State) (H1 : Heap) (locs1 : List Loc), t.heap = H1 → s.vm.Alike t.vm → post u → B u t → H.size ≤ H1.size → (∀ q : Nat, q < H.size → ¬ A1 q → H1[q]? = H[q]?) → va_S A0 H0 H1 locs1 → W p l e R s m args below meth c H1 locs1 (cells + mc) (slots + ms) Q (F0 m (pc + 3) ls (rest))) : W p l e R s m args below meth c H locs cells slots Q (F0 m pc ls st0) := by
  intro T hT X
  rcases hr T hT X with ⟨v, st₀, t, T', L, h0, X', hL, e1, e2, ⟨⟨u, hv, hp, hb⟩, hF⟩, st⟩ | ⟨q, st₀, t, T', L, E, ce, h0, X', hL, e1, e2, ⟨u, hp, hb, hF⟩, hce, hcv, hcl, st⟩
  · cases hv
    obtain ⟨k1, k2, k3⟩ := vx_keep h0 e1 hS hA hf hL hF
    obtain ⟨t2, a1, b1⟩ := kk u t T'.heap (locs ++ L) e1.symm (by rw [← e2]; exact X'.warmed.alike) hp hb k1 k2 k3 T' rfl X'
    exact ⟨t2, st t2 a1, b1⟩
  · obtain ⟨k1, k2, k3⟩ := vx_keep h0 e1 hS hAX hf hL hF
    obtain ⟨t2, a1, b1⟩ := kx E ce q u t T'.heap (locs ++ L) e1.symm (by rw [← e2]; exact X'.warmed.alike) hp hb k1 k2 k3 (by rw [e1]; exact hce) hcv hcl T' rfl X'
    exact ⟨t2, st.trans a1, b1⟩
/-- caught by the row x of this method's table; the rows ahead don't take it -/
theorem vx_catch {own name : String} {E : String} {ce : Cell} {q : Addr} (hown : s.vm.findClass own = some m.cls) (pre : List ExceptionTableEntry) (x : ExceptionTableEntry) (suf : List ExceptionTableEntry) (hsplit : c.exceptionTable.toList = pre ++ x :: suf)
    (hpass : ∀ z ∈ pre, covers z pc = false ∨ (z.catchType ≠ 0 ∧ ∃ nm : String, (Cond.classLink own z.catchType nm).before args s = true ∧ va_Nc E nm s)) (hx : covers x pc = true) (h0 : x.catchType ≠ 0)
    (hlink : (Cond.classLink own x.catchType name).before args s = true) (hcast : (Cond.castable E name).before args s = true) (hcell : H[q]? = some ce) (hv : ce.vm = .none) (hcl : s.vm.findClass E = some ce.cls)
    (kk : W p l e R s m args below meth c H locs cells slots Q (F0 m x.handlerPc ls [.ref q])) : vx_W p l e R s m args below meth c H locs cells slots Q (F0 m pc ls rest) q := by
  intro T hT X
  have hpl : e.platform.magicAccessors = ({} : Platform).magicAccessors := by rw [X.admits.platform]
  obtain ⟨c3, c4, hc3, hc4, hasg⟩ := Cond.castable_spec hcast
  cases Option.some.inj (hc3.symm.trans hcl)
  obtain ⟨c5, hc5, hcl5⟩ := Cond.classLink_spec hown hlink e.platform hpl
  cases Option.some.inj (hc4.symm.trans hc5)
  obtain ⟨vm', X', st⟩ := X.thenCaughtThrough q (g := F0 m pc ls rest) rfl (Steps.refl _) (by rw [hT]; exact hcell) (by rw [hv]; rfl) (by obtain ⟨k9, h9, -⟩ := Vm.findClass_spec hcl; exact ⟨k9, h9⟩) pre x suf hsplit
    (fun z hz => by
      rcases hpass z hz with h | ⟨hz0, nm, hl1, hn1⟩
      · exact Or.inl h
      · obtain ⟨c6, hc6, hcl6⟩ := Cond.classLink_spec hown hl1 e.platform hpl
        obtain ⟨a8, b8, h1, h2, h3⟩ := hn1
        cases Option.some.inj (h1.symm.trans hcl)
        cases Option.some.inj (h2.symm.trans hc6)
        exact Or.inr ⟨hz0, _, hcl6, h3⟩) hx (Or.inr ⟨h0, c4, hcl5, hasg⟩)
  obtain ⟨t, a1, b1⟩ := kk (T.setVm vm') hT X'
  exact ⟨t, st.trans a1, b1⟩
end Rows
section Ends
variable {p : Program} {l : Launch} {e : Env} {R : Room} {s : State} {m : MethodId} {args : Array Value} {below : List Frame} {meth : Method} {c : Code} {H : Heap} {locs : List Loc} {cells slots : Nat} {Q : State → Prop}
variable {mc ms : Nat} {free : Addr → Prop} {A0 A1 : Nat → Prop} {H0 : Heap} {a : Array Value} {ls : Array Slot} {st0 rest : List Value}
variable {Qc : Array Value → State → Outcome → State → Prop} {XC : String → State → State → Prop}
/-- what a body that may throw owes at its end -/
def vx_MQ (below : List Frame) (Qc : Array Value → State → Outcome → State → Prop) (XC : String → State → State → Prop) (a : Array Value) (s : State) (mc ms : Nat) (free : Addr → Prop) : State → Prop := fun t =>
  ∃ o, t.status = .running ∧ Ended t below o ∧ vx_Q Qc XC mc ms free a s o t
theorem vx_ret {g : JFrame} {mc ms : Nat} (k : W p l e R s m args below meth c H locs cells slots (MQ below Qc args s mc ms free) g) : W p l e R s m args below meth c H locs cells slots (vx_MQ below Qc XC args s mc ms free) g := by
  intro T hT X
  obtain ⟨t, a1, o, b1, b2, b3, b4⟩ := k T hT X
  exact ⟨t, a1, o, b1, b2, Or.inl ⟨b3, b4⟩⟩
/-- not caught here: it goes on to the caller -/
theorem vx_widen {g : JFrame} {q : Addr} {k n : Nat} (h1 : cells ≤ k) (h2 : slots ≤ n) (kk : vx_W p l e R s m args below meth c H locs k n Q g q) : vx_W p l e R s m args below meth c H locs cells slots Q g q := fun T hT X => kk T hT (stand_widen X h1 h2)
theorem vx_out {pc : Nat} {E : String} {ce : Cell} {q : Addr} {mc ms : Nat} (hout : ∀ x ∈ c.exceptionTable.toList, covers x pc = false) (hlocks : meth.locks = false) (hcell : H[q]? = some ce) (hv : ce.vm = .none) (hcl : s.vm.findClass E = some ce.cls)
    (hx : ∀ t : State, t.heap = H → s.vm.Alike t.vm → XC E s t) (hf : ∀ z ∈ locs, free z.base) (hc : cells ≤ mc) (hs : slots ≤ ms) :
    vx_W p l e R s m args below meth c H locs cells slots (vx_MQ below Qc XC args s mc ms free) (F0 m pc ls rest) q := by
  intro T hT X
  obtain ⟨st1, hrun, hend, hW, hsm⟩ := X.leaveThrown q (g := F0 m pc ls rest) rfl rfl rfl hout hlocks
  have hcell9 : (T.setFrames (.throwing q :: below)).heap[q]? = some ce := by
    show T.heap[q]? = some ce
    rw [hT]; exact hcell
  exact ⟨_, st1, .threw q, hrun, hend, Or.inr ⟨q, rfl, E, ce, locs, hx _ hT hW.alike, hcell9, hv, hcl, hW, hsm.mono hc hs, hf⟩⟩
theorem vx_frame {U : State} {k n : Nat} (h : s.sameButNew ({ U with vm := s.vm } : State) locs k n) : s.heap.size ≤ U.heap.size ∧ ∀ q : Nat, q < s.heap.size → (∀ z ∈ locs, z.base ≠ q) → U.heap[q]? = s.heap[q]? := by
  obtain ⟨-, h2, -, -, -, h6⟩ := h
  refine ⟨h2, fun q hq hz => ?_⟩
  obtain ⟨c9, e1, e2, e3, e4⟩ := h6 q _ (Array.getElem?_eq_getElem hq)
  have hs : c9.slots = (s.heap[q]).slots := Array.ext_getElem? fun i => e4 i fun hm => hz _ hm rfl
  have h9 : c9 = s.heap[q] := by
    rw [hs] at e2
    exact e2
  have e5 : U.heap[q]? = some c9 := e1
  rw [e5, h9, Array.getElem?_eq_getElem hq]
/-- the words of a throw but the four that speak of the heap -/
def vx_no (w : Cond) : Bool := decide (w ≠ .isRef (.static Bundle.tN "UNASSIGNED_STACK" Bundle.steD)) && decide (w ≠ .isRef (.static Bundle.tN "SUPPRESSED_SENTINEL" Bundle.listD)) && decide (w ≠ .laysStatic Bundle.tN "UNASSIGNED_STACK" Bundle.steD) && decide (w ≠ .laysStatic Bundle.tN "SUPPRESSED_SENTINEL" Bundle.listD)
def vx_at0 (own : String) (ic : Nat) (X : String) (names : List String) : List Cond := (Bundle.ownAtoms0 own ic X names).filter vx_no
def vx_atS (own : String) (ic : Nat) (X : String) (names : List String) : List Cond := (Bundle.ownAtoms own ic X names).filter vx_no
/-- a word that the tables alone decide, or a good one -/
def vx_ot (w : Cond) : Bool := w.onTables || goodWord w
theorem vx_ot_at {args a' : Array Value} {s U : State} {w : Cond} (hW : s.WarmedH U.vm) (hvm : s.vm = U.vm) (hg : vx_ot w = true) (h : w.before args s = true) : w.before a' U = true := by
  simp only [vx_ot, Bool.or_eq_true] at hg
  rcases hg with hg | hg
  · exact va_tabs hg hvm h
  · exact word_at hW (good_of_word hg) h
/-- a list's words: the good ones out of the method's own list, the others by premises of their own -/
theorem vx_hat {args : Array Value} {s : State} {L B : List Cond} (h1 : ∀ w ∈ L.filter goodWord, w.before args s = true) (h2 : ∀ w ∈ L.filter (fun w => !goodWord w), w ∈ B) (h3 : ∀ w ∈ B, w.before args s = true) : ∀ w ∈ L, w.before args s = true := by
  intro w hw
  by_cases g : goodWord w = true
  · exact h1 w (List.mem_filter.mpr ⟨hw, g⟩)
  · refine h3 w (h2 w (List.mem_filter.mpr ⟨hw, ?_⟩))
    show (!goodWord w) = true
    cases hgw : goodWord w
    · rfl
    · exact absurd hgw g
theorem vx_c {args : Array Value} {s : State} {w : Cond} {B : List Cond} (h : w.before args s = true) (t : ∀ w ∈ B, w.before args s = true) : ∀ w' ∈ w :: B, w'.before args s = true := fun w' h' => (List.mem_cons.mp h').elim (fun e => by rw [e]; exact h) (t w')
theorem vx_n {args : Array Value} {s : State} : ∀ w ∈ ([] : List Cond), w.before args s = true := fun _ h => nomatch h
theorem vx_own {args : Array Value} {s : State} {L : List Cond} (h1 : ∀ w ∈ L.filter vx_no, w.before args s = true)
    (hU : (Cond.isRef (.static Bundle.tN "UNASSIGNED_STACK" Bundle.steD)).before args s = true) (hN : (Cond.isRef (.static Bundle.tN "SUPPRESSED_SENTINEL" Bundle.listD)).before args s = true)
    (lU : (Cond.laysStatic Bundle.tN "UNASSIGNED_STACK" Bundle.steD).before args s = true) (lN : (Cond.laysStatic Bundle.tN "SUPPRESSED_SENTINEL" Bundle.listD).before args s = true) : ∀ w ∈ L, w.before args s = true := by
  intro w hw
  by_cases e1 : w = .isRef (.static Bundle.tN "UNASSIGNED_STACK" Bundle.steD)
  · rw [e1]; exact hU
  · by_cases e2 : w = .isRef (.static Bundle.tN "SUPPRESSED_SENTINEL" Bundle.listD)
    · rw [e2]; exact hN
    · by_cases e3 : w = .laysStatic Bundle.tN "UNASSIGNED_STACK" Bundle.steD
      · rw [e3]; exact lU
      · by_cases e4 : w = .laysStatic Bundle.tN "SUPPRESSED_SENTINEL" Bundle.listD
        · rw [e4]; exact lN
        · exact h1 w (List.mem_filter.mpr ⟨hw, by unfold vx_no; rw [decide_eq_true e1, decide_eq_true e2, decide_eq_true e3, decide_eq_true e4]; rfl⟩)
/-- where a static field lies, its class's statics cell in H -/
def vx_L (C n d : String) (A : Nat → Prop) (U : State) (H : Heap) : Prop := ∃ (c : ClassId) (k : Class) (i : Nat) (f : Field) (a : Nat) (cell : Cell), U.vm.findClass C = some c ∧ U.fieldFound? C n d = some (c, k, i, f) ∧ f.isStatic = true ∧ k.statics = some a ∧ H[a]? = some cell ∧ cell.vm.isStatics = true ∧ cell.cls = c ∧ f.slot < cell.slots.size ∧ k.staticTypes[f.slot]? = some f.type ∧ ¬ A a
theorem vx_L.moved {C n d : String} {A : Nat → Prop} {u U : State} {H : Heap} (hvm : u.vm.Alike U.vm) (h : vx_L C n d A u H) : vx_L C n d A U H := by
  obtain ⟨c, k, i, f, a, cell, h1, h2, h3, h4, h5, h6, h7, h8, h9, h10⟩ := h
  obtain ⟨k', hi', he⟩ := State.fieldFound?_setVm hvm h2
  exact ⟨c, k', i, f, a, cell, by rw [hvm.findClass]; exact h1, hi', h3, by rw [he]; exact h4, h5, h6, h7, h8, by rw [he]; exact h9, h10⟩
theorem vx_L.kept {C n d : String} {A : Nat → Prop} {U : State} {H H1 : Heap} (h : vx_L C n d A U H) (hq : ∀ a : Nat, a < H.size → ¬ A a → H1[a]? = H[a]?) : vx_L C n d A U H1 := by
  obtain ⟨c, k, i, f, a, cell, h1, h2, h3, h4, h5, h6, h7, h8, h9, h10⟩ := h
  exact ⟨c, k, i, f, a, cell, h1, h2, h3, h4, by rw [hq a (Array.getElem?_eq_some_iff.mp h5).1 h10]; exact h5, h6, h7, h8, h9, h10⟩
theorem vx_L.narrow {C n d : String} {A B : Nat → Prop} {U : State} {H : Heap} (h : vx_L C n d A U H) (hAB : ∀ q, B q → A q) : vx_L C n d B U H := by
  obtain ⟨c, k, i, f, a, cell, h1, h2, h3, h4, h5, h6, h7, h8, h9, h10⟩ := h
  exact ⟨c, k, i, f, a, cell, h1, h2, h3, h4, h5, h6, h7, h8, h9, fun z => h10 (hAB _ z)⟩
theorem vx_L.word {C n d : String} {A : Nat → Prop} {s : State} {args : Array Value} (h : vx_L C n d A s s.heap) : (Cond.laysStatic C n d).before args s = true := by
  obtain ⟨c, k, i, f, a, cell, h1, h2, h3, h4, h5, h6, h7, h8, h9, -⟩ := h
  show (Cond.laysStatic C n d).holds args s none s [] = true
  exact Cond.laysStatic_of h1 h2 h3 h4 h5 h6 h7 h8 h9
/-- .. and what it holds: null or some reference -/
def vx_Zq (C n d : String) (A : Nat → Prop) (U : State) (H : Heap) : Prop := va_Zq C n d A U H ∧ vx_L C n d A U H
theorem vx_Zq.moved {C n d : String} {A : Nat → Prop} {u U : State} {H : Heap} (hvm : u.vm.Alike U.vm) (h : vx_Zq C n d A u H) : vx_Zq C n d A U H := ⟨va_Zq.moved hvm h.1, vx_L.moved hvm h.2⟩
theorem vx_Zq.kept {C n d : String} {A : Nat → Prop} {U : State} {H H1 : Heap} (h : vx_Zq C n d A U H) (hq : ∀ a : Nat, a < H.size → ¬ A a → H1[a]? = H[a]?) : vx_Zq C n d A U H1 := ⟨va_Zq.kept h.1 hq, vx_L.kept h.2 hq⟩
theorem vx_Zq.narrow {C n d : String} {A B : Nat → Prop} {U : State} {H : Heap} (h : vx_Zq C n d A U H) (hAB : ∀ q, B q → A q) : vx_Zq C n d B U H := ⟨va_Zq.narrow h.1 hAB, vx_L.narrow h.2 hAB⟩
theorem vx_Zqof {args : Array Value} {s : State} {C n d : String} {A : Nat → Prop} (hl : (Cond.laysStatic C n d).before args s = true) (hini : (Cond.initialized C).before args s = true) (h : (Cond.isRef (.static C n d)).before args s = true) (hA : ∀ a : Nat, a < s.heap.size → ¬ A a) : vx_Zq C n d A s s.heap := by
  refine ⟨va_Zqof hl hini h hA, ?_⟩
  obtain ⟨c, k, i, f, a, cell, h1, h2, h3, h4, h5, h6, h7, h8, h9⟩ := Cond.laysStatic_spec hl
  exact ⟨c, k, i, f, a, cell, h1, h2, h3, h4, h5, h6, h7, h8, h9, hA a (Array.getElem?_eq_some_iff.mp h5).1⟩
theorem vx_isRef {C n d : String} {v : Value} {A : Nat → Prop} {s : State} {args : Array Value} (h : va_Z C n d v A s s.heap) (hv : v.isRef = true) : (Cond.isRef (.static C n d)).before args s = true := by
  obtain ⟨cf, kf, fi, f, a, cell, h1, h2, h3, h4, h5, h6, h7, -⟩ := h
  have he : (Term.static C n d).eval args s none [] s = some v := by
    simp [Term.eval, State.fieldNamed?, h1, h2, h4, h5, h6, h7]
  simp only [Cond.before, Cond.holds, Cond.value, he]
  cases v <;> simp_all [Value.isRef]
theorem vx_isRefq {C n d : String} {A : Nat → Prop} {s : State} {args : Array Value} (h : va_Zq C n d A s s.heap) : (Cond.isRef (.static C n d)).before args s = true := by
  rcases h with h | ⟨t, h⟩
  · exact vx_isRef h rfl
  · exact vx_isRef h rfl
/-- the same frame, seen from here: as if the method were called anew in this heap -/
theorem vx_rebase {T : State} (X : Stand p l e R s m args below meth c T locs cells slots) {R' : Room} (hf : R'.frames ≤ R.frames) (hl : R'.locals ≤ R.locals) (hc : cells + R'.cells ≤ R.cells) (hs : slots + R'.slots ≤ R.slots) :
    Stand p l e R' ((T.setVm s.vm).setFrames (.invoking m args :: below)) m args below meth c T [] 0 0 := by
  have htop : (T.setVm s.vm).topJava?.isSome := X.here.top
  have hF : ((T.setVm s.vm).setFrames (.invoking m args :: below)).frames = .invoking m args :: below := State.frames_setFrames _ (State.cur_lt_of_top htop)
  obtain ⟨g₀, hg0⟩ := Option.isSome_iff_exists.mp htop
  obtain ⟨r, hr⟩ := State.topJava?_eq_some.mp hg0
  have hl9 : e.platform.stackLimits (T.setVm s.vm).me = e.platform.stackLimits s.me := X.limits
  have hb9 : (T.setVm s.vm).me.stackBytes = s.me.stackBytes := X.bytes
  refine ⟨X.admits, X.cas, X.clock, hF, ?_, X.hears, X.method, X.code, X.here, X.tail, X.warmed, ?_, ?_, ?_⟩
  · have h := X.room
    have hU : ((T.setVm s.vm).setFrames (.invoking m args :: below)).localsInUse = s.localsInUse := by
      rw [State.localsInUse_invoking hF (meth := meth) (c := c) X.method X.code, State.localsInUse_invoking X.frames X.method X.code]
    simp only [State.hasRoom, Bool.and_eq_true, decide_eq_true_eq] at h ⊢
    obtain ⟨⟨⟨⟨h1, h2, h3, h4, h5, h6⟩, h7⟩, h8⟩, h9⟩ := h
    rw [X.frames, List.length_cons] at h2 h3
    have q1 := X.heapSize
    have q2 := X.used
    simp only [hF, hU, List.length_cons, State.stackLimits_setFrames, State.stackBytes_setFrames, hl9, hb9]
    refine ⟨⟨⟨⟨by omega, by omega, by omega, by omega, by omega, h6⟩, ?_⟩, ?_⟩, X.book⟩
    · show T.heap.size + R'.cells ≤ e.platform.maxCells
      omega
    · show T.slotsUsed + R'.slots ≤ e.platform.maxSlots
      omega
  · rw [State.stackLimits_setFrames]; rfl
  · rw [State.stackBytes_setFrames]; rfl
  · refine ⟨?_, Nat.le_refl _, Nat.le_refl _, ?_, ?_, fun a c9 h9 => ⟨c9, h9, rfl, rfl, fun _ _ => rfl⟩⟩
    · obtain ⟨t, ht, -⟩ := State.frames_cons hr
      show T.setVm s.vm = { ((T.setVm s.vm).setFrames (.invoking m args :: below)).setFrames (T.setVm s.vm).frames with heap := T.heap, slotsUsed := T.slotsUsed }
      rw [State.setFrames_setFrames, State.setFrames_self ht]
      rfl
    · show T.slotsUsed = T.slotsUsed + ((T.heap.toList.drop T.heap.size).map (·.slots.size)).sum
      rw [List.drop_eq_nil_of_le (Nat.le_of_eq Array.length_toList)]
      rfl
    · show ((T.heap.toList.drop T.heap.size).map (·.slots.size)).sum ≤ 0
      rw [List.drop_eq_nil_of_le (Nat.le_of_eq Array.length_toList)]
      exact Nat.le_refl _
/-- 'throw new E()': new; dup; invokespecial; athrow -/
theorem vx_throw0 {cc : ByteArray} {pc : Nat} (hexec : p.tables.exec = Jvm.exec) (hb : c.code = cc) (hl : l.stackTraces = false) {own cls : String} {names : List String} {ik ic mc ms : Nat} {A : Nat → Prop}
    (hown : s.vm.findClass own = some m.cls) (hcls : Bundle.fit cls = true) (hnames : ∀ n ∈ names, Bundle.fit n = true)
    (hk : (Cond.classLink own ik cls).before args s = true) (hini : (Cond.initialized cls).before args s = true) (hat : ∀ w ∈ vx_at0 own ic cls names, w.before args s = true)
    (hgood : ∀ w ∈ Cond.classLink own ik cls :: Cond.initialized cls :: vx_at0 own ic cls names, vx_ot w = true)
    (hU : vx_Zq Bundle.tN "UNASSIGNED_STACK" Bundle.steD A s s.heap) (hN : vx_Zq Bundle.tN "SUPPRESSED_SENTINEL" Bundle.listD A s s.heap) (hS : va_S A s.heap H locs) (hsize : ls.size = c.maxLocals)
    (d0 : decode cc pc = .ok (.new ik, 3)) (d3 : decode cc (pc + 3) = .ok (.dup, 1)) (d4 : decode cc (pc + 4) = .ok (.invokespecial ic, 3)) (d7 : decode cc (pc + 7) = .ok (.athrow, 1))
    (hout : ∀ x ∈ c.exceptionTable.toList, covers x (pc + 7) = false)
    (hRframes : names.length + 3 < R.frames) (hRlocals : (rest.map fun v => v.category).sum + (13 * (names.length + 1) + 42) ≤ R.locals) (hRcells : cells + 1 ≤ R.cells) (hRslots : slots + 6 ≤ R.slots) (hlocks : meth.locks = false)
    (hx : ∀ t : State, s.vm.Alike t.vm → H.size ≤ t.heap.size → (∀ q : Nat, q < H.size → t.heap[q]? = H[q]?) → XC cls s t)
    (hf : ∀ z ∈ locs, free z.base) (hc : cells + 1 ≤ mc) (hs : slots + 6 ≤ ms) :
    W p l e R s m args below meth c H locs cells slots (vx_MQ below Qc XC args s mc ms free) (F0 m pc ls rest) := by
  intro T hT X
  have htr : e.platform.stackTraces = false := (show e.platform.stackTraces = l.stackTraces by rw [X.admits.platform]).trans hl
  have Y := vx_rebase X (R' := { frames := R.frames, locals := R.locals, cells := 1, slots := 6 }) (Nat.le_refl _) (Nat.le_refl _) hRcells hRslots
  obtain ⟨s', hA⟩ : ∃ z, z = (T.setVm s.vm).setFrames (.invoking m args :: below) := ⟨_, rfl⟩
  rw [← hA] at Y
  have hvm : s'.vm = s.vm := by rw [hA]; rfl
  have hhp : s'.heap = H := by rw [hA]; exact hT
  have hW0 : s.WarmedH s'.vm := by rw [hvm]; exact State.WarmedH.refl s
  have hat' : ∀ w ∈ vx_at0 own ic cls names, w.before args s' = true := fun w hw => vx_ot_at hW0 hvm.symm (hgood w (List.mem_cons_of_mem _ (List.mem_cons_of_mem _ hw))) (hat w hw)
  have hk' : (Cond.classLink own ik cls).before args s' = true := vx_ot_at hW0 hvm.symm (hgood _ List.mem_cons_self) hk
  have hini' : (Cond.initialized cls).before args s' = true := vx_ot_at hW0 hvm.symm (hgood _ (List.mem_cons_of_mem _ List.mem_cons_self)) hini
  have hU' : vx_Zq Bundle.tN "UNASSIGNED_STACK" Bundle.steD A s' s'.heap := by rw [hhp]; exact vx_Zq.moved hW0.alike (hU.kept hS.2.1)
  have hN' : vx_Zq Bundle.tN "SUPPRESSED_SENTINEL" Bundle.listD A s' s'.heap := by rw [hhp]; exact vx_Zq.moved hW0.alike (hN.kept hS.2.1)
  have h : ∀ w ∈ Bundle.ownAtoms0 own ic cls names, w.before args s' = true := vx_own hat' (vx_isRefq hU'.1) (vx_isRefq hN'.1) hU'.2.word hN'.2.word
  have hown' : s'.vm.findClass own = some m.cls := by rw [hvm]; exact hown
  have hins : (Cond.instantiable cls 6).before args s' = true := h _ (by simp [Bundle.ownAtoms0])
  obtain ⟨vm₁, cX, kX, hfX, hkX, -, -, X₁, st1⟩ := Y.newCold hexec (own := own) (C := cls) (index := ik) (n := 6) hown' hk' hins hini'
    (g := F0 m pc ls rest) rfl (by rw [hb]; exact d0) (Nat.le_refl _) (Nat.le_refl _)
  generalize hT1 : (T.setVm vm₁).pushCell { cls := cX, slots := kX.instanceTypes.map defaultValue, vm := .none } = T1 at X₁ st1
  have hcat : (Value.ref T.heap.size).category = 1 := rfl
  have hcellA : T1.heap[T.heap.size]? = some (freshCell cX kX) := by rw [← hT1]; exact State.heap_pushCell_size _ _
  have d3' : decode c.code (pc + 3) = .ok (.dup, 1) := by rw [hb]; exact d3
  obtain ⟨U, hsteps, hrun, hend, hW, hsame, ce, hce, hO⟩ := X₁.ctorThrow0 hexec htr (own := own) (cls := cls) (names := names) (ic := ic) hown' hcls hnames h (fun x hx => nomatch hx) hfX hkX hcellA (by rw [hhp, hT]; exact Nat.le_refl _)
    (g := { method := m, pc := pc + 4, locals := ls, stack := .ref T.heap.size :: .ref T.heap.size :: rest, locked := none }) rfl hsize rfl rfl (rest := rest) rfl
    (by rw [hb]; exact d4) (by rw [hb]; exact d7) hout hRframes (by simp only [List.map_cons, List.sum_cons, hcat]; omega) hlocks
  obtain ⟨f1, f2⟩ := vx_frame hsame
  rw [hhp] at f1 f2
  have hWs : s.WarmedH U.vm := State.WarmedH.trans hW0 hW
  have hcl : s.vm.findClass cls = some ce.cls := by
    have h9 := hO.cls
    rw [hvm] at h9
    exact h9
  have hall : s.sameButNew ({ U with vm := s.vm } : State) locs mc ms := by
    subst hA
    obtain ⟨e1, e2⟩ := hsame
    rw [State.setFrames_setFrames] at e1
    have h2 : (T.setVm s.vm).sameButNew ({ U with vm := s.vm } : State) [] (0 + 1) (0 + 6) := ⟨e1, e2⟩
    have h3 := X.same.trans h2
    rw [List.append_nil] at h3
    exact h3.mono hc hs
  refine ⟨U, ?_, .threw T.heap.size, hrun, hend, Or.inr ⟨T.heap.size, rfl, cls, ce, locs, hx U hWs.alike f1 (fun q hq => f2 q hq (fun z hz => nomatch hz)), hce, hO.vm, hcl, hWs, hall, hf⟩⟩
  refine st1 _ ?_
  show Steps p.tables e below (T1.setTop { method := m, pc := pc + 3, locals := ls, stack := .ref T.heap.size :: rest, locked := none }) _
  jvm_step X₁.here [X₁.here.top, hexec, d3', Value.category]
  exact hsteps
/-- 'throw new E("text")': new; dup; ldc; invokespecial; athrow -/
theorem vx_throwS {cc : ByteArray} {pc : Nat} (hexec : p.tables.exec = Jvm.exec) (hb : c.code = cc) (hl : l.stackTraces = false) {own cls text : String} {names : List String} {ik is ic mc ms sa : Nat} {A : Nat → Prop}
    (hown : s.vm.findClass own = some m.cls) (hcls : Bundle.fit cls = true) (hnames : ∀ n ∈ names, Bundle.fit n = true)
    (hk : (Cond.classLink own ik cls).before args s = true) (hini : (Cond.initialized cls).before args s = true) (hstr : vk_R own is text sa s) (hat : ∀ w ∈ vx_atS own ic cls names, w.before args s = true)
    (hgood : ∀ w ∈ Cond.classLink own ik cls :: Cond.initialized cls :: vx_atS own ic cls names, vx_ot w = true)
    (hU : vx_Zq Bundle.tN "UNASSIGNED_STACK" Bundle.steD A s s.heap) (hN : vx_Zq Bundle.tN "SUPPRESSED_SENTINEL" Bundle.listD A s s.heap) (hS : va_S A s.heap H locs) (hsize : ls.size = c.maxLocals)
    (d0 : decode cc pc = .ok (.new ik, 3)) (d3 : decode cc (pc + 3) = .ok (.dup, 1)) (d4 : decode cc (pc + 4) = .ok (.ldc is, 2)) (d6 : decode cc (pc + 6) = .ok (.invokespecial ic, 3)) (d9 : decode cc (pc + 9) = .ok (.athrow, 1))
    (hout : ∀ x ∈ c.exceptionTable.toList, covers x (pc + 9) = false)
    (hRframes : names.length + 3 < R.frames) (hRlocals : (rest.map fun v => v.category).sum + (13 * (names.length + 1) + 43) ≤ R.locals) (hRcells : cells + 1 ≤ R.cells) (hRslots : slots + 6 ≤ R.slots) (hlocks : meth.locks = false)
    (hx : ∀ t : State, s.vm.Alike t.vm → H.size ≤ t.heap.size → (∀ q : Nat, q < H.size → t.heap[q]? = H[q]?) → XC cls s t)
    (hf : ∀ z ∈ locs, free z.base) (hc : cells + 1 ≤ mc) (hs : slots + 6 ≤ ms) :
    W p l e R s m args below meth c H locs cells slots (vx_MQ below Qc XC args s mc ms free) (F0 m pc ls rest) := by
  intro T hT X
  have htr : e.platform.stackTraces = false := (show e.platform.stackTraces = l.stackTraces by rw [X.admits.platform]).trans hl
  have Y := vx_rebase X (R' := { frames := R.frames, locals := R.locals, cells := 1, slots := 6 }) (Nat.le_refl _) (Nat.le_refl _) hRcells hRslots
  obtain ⟨s', hA⟩ : ∃ z, z = (T.setVm s.vm).setFrames (.invoking m args :: below) := ⟨_, rfl⟩
  rw [← hA] at Y
  have hvm : s'.vm = s.vm := by rw [hA]; rfl
  have hhp : s'.heap = H := by rw [hA]; exact hT
  have hW0 : s.WarmedH s'.vm := by rw [hvm]; exact State.WarmedH.refl s
  have hat' : ∀ w ∈ vx_atS own ic cls names, w.before args s' = true := fun w hw => vx_ot_at hW0 hvm.symm (hgood w (List.mem_cons_of_mem _ (List.mem_cons_of_mem _ hw))) (hat w hw)
  have hk' : (Cond.classLink own ik cls).before args s' = true := vx_ot_at hW0 hvm.symm (hgood _ List.mem_cons_self) hk
  have hini' : (Cond.initialized cls).before args s' = true := vx_ot_at hW0 hvm.symm (hgood _ (List.mem_cons_of_mem _ List.mem_cons_self)) hini
  have hU' : vx_Zq Bundle.tN "UNASSIGNED_STACK" Bundle.steD A s' s'.heap := by rw [hhp]; exact vx_Zq.moved hW0.alike (hU.kept hS.2.1)
  have hN' : vx_Zq Bundle.tN "SUPPRESSED_SENTINEL" Bundle.listD A s' s'.heap := by rw [hhp]; exact vx_Zq.moved hW0.alike (hN.kept hS.2.1)
  have h : ∀ w ∈ Bundle.ownAtoms own ic cls names, w.before args s' = true := vx_own hat' (vx_isRefq hU'.1) (vx_isRefq hN'.1) hU'.2.word hN'.2.word
  have hown' : s'.vm.findClass own = some m.cls := by rw [hvm]; exact hown
  have hins : (Cond.instantiable cls 6).before args s' = true := h _ (by simp [Bundle.ownAtoms])
  obtain ⟨vm₁, cX, kX, hfX, hkX, -, -, X₁, st1⟩ := Y.newCold hexec (own := own) (C := cls) (index := ik) (n := 6) hown' hk' hins hini'
    (g := F0 m pc ls rest) rfl (by rw [hb]; exact d0) (Nat.le_refl _) (Nat.le_refl _)
  generalize hT1 : (T.setVm vm₁).pushCell { cls := cX, slots := kX.instanceTypes.map defaultValue, vm := .none } = T1 at X₁ st1
  have hcat : (Value.ref T.heap.size).category = 1 := rfl
  have hcellA : T1.heap[T.heap.size]? = some (freshCell cX kX) := by rw [← hT1]; exact State.heap_pushCell_size _ _
  have d3' : decode c.code (pc + 3) = .ok (.dup, 1) := by rw [hb]; exact d3
  have d4' : decode c.code (pc + 4) = .ok (.ldc is, 2) := by rw [hb]; exact d4
  have hstr' : vk_R own is text sa s' := vk_R.warm hW0 hstr
  obtain ⟨U, hsteps, hrun, hend, hW, hsame, ce, hce, hO⟩ := X₁.ctorThrowS hexec htr (own := own) (cls := cls) (names := names) (ic := ic) hown' hcls hnames h (fun x hx => nomatch hx) hfX hkX hcellA (by rw [hhp, hT]; exact Nat.le_refl _) (msg := .ref sa) rfl
    (g := { method := m, pc := pc + 6, locals := ls, stack := .ref sa :: .ref T.heap.size :: .ref T.heap.size :: rest, locked := none }) rfl hsize rfl rfl (rest := rest) rfl
    (by rw [hb]; exact d6) (by rw [hb]; exact d9) hout hRframes (by simp only [List.map_cons, List.sum_cons, hcat]; omega) hlocks
  obtain ⟨f1, f2⟩ := vx_frame hsame
  rw [hhp] at f1 f2
  have hWs : s.WarmedH U.vm := State.WarmedH.trans hW0 hW
  have hcl : s.vm.findClass cls = some ce.cls := by
    have h9 := hO.cls
    rw [hvm] at h9
    exact h9
  have hall : s.sameButNew ({ U with vm := s.vm } : State) locs mc ms := by
    subst hA
    obtain ⟨e1, e2⟩ := hsame
    rw [State.setFrames_setFrames] at e1
    have h2 : (T.setVm s.vm).sameButNew ({ U with vm := s.vm } : State) [] (0 + 1) (0 + 6) := ⟨e1, e2⟩
    have h3 := X.same.trans h2
    rw [List.append_nil] at h3
    exact h3.mono hc hs
  refine ⟨U, ?_, .threw T.heap.size, hrun, hend, Or.inr ⟨T.heap.size, rfl, cls, ce, locs, hx U hWs.alike f1 (fun q hq => f2 q hq (fun z hz => nomatch hz)), hce, hO.vm, hcl, hWs, hall, hf⟩⟩
  refine st1 _ ?_
  show Steps p.tables e below (T1.setTop { method := m, pc := pc + 3, locals := ls, stack := .ref T.heap.size :: rest, locked := none }) _
  jvm_step X₁.here [X₁.here.top, hexec, d3', Value.category]
  exact X₁.ldcString hexec (own := own) (text := text) (index := is) (a := sa) hown' hstr'.1 hstr'.2
    (g := { method := m, pc := pc + 4, locals := ls, stack := .ref T.heap.size :: .ref T.heap.size :: rest, locked := none }) rfl d4' _ hsteps
/-- 'throw new E("text")', the text by a wide index -/
theorem vx_throwSW {cc : ByteArray} {pc : Nat} (hexec : p.tables.exec = Jvm.exec) (hb : c.code = cc) (hl : l.stackTraces = false) {own cls text : String} {names : List String} {ik is ic mc ms sa : Nat} {A : Nat → Prop}
    (hown : s.vm.findClass own = some m.cls) (hcls : Bundle.fit cls = true) (hnames : ∀ n ∈ names, Bundle.fit n = true)
    (hk : (Cond.classLink own ik cls).before args s = true) (hini : (Cond.initialized cls).before args s = true) (hstr : vk_R own is text sa s) (hat : ∀ w ∈ vx_atS own ic cls names, w.before args s = true)
    (hgood : ∀ w ∈ Cond.classLink own ik cls :: Cond.initialized cls :: vx_atS own ic cls names, vx_ot w = true)
    (hU : vx_Zq Bundle.tN "UNASSIGNED_STACK" Bundle.steD A s s.heap) (hN : vx_Zq Bundle.tN "SUPPRESSED_SENTINEL" Bundle.listD A s s.heap) (hS : va_S A s.heap H locs) (hsize : ls.size = c.maxLocals)
    (d0 : decode cc pc = .ok (.new ik, 3)) (d3 : decode cc (pc + 3) = .ok (.dup, 1)) (d4 : decode cc (pc + 4) = .ok (.ldc_w is, 3)) (d7 : decode cc (pc + 7) = .ok (.invokespecial ic, 3)) (d10 : decode cc (pc + 10) = .ok (.athrow, 1))
    (hout : ∀ x ∈ c.exceptionTable.toList, covers x (pc + 10) = false)
    (hRframes : names.length + 3 < R.frames) (hRlocals : (rest.map fun v => v.category).sum + (13 * (names.length + 1) + 43) ≤ R.locals) (hRcells : cells + 1 ≤ R.cells) (hRslots : slots + 6 ≤ R.slots) (hlocks : meth.locks = false)
    (hx : ∀ t : State, s.vm.Alike t.vm → H.size ≤ t.heap.size → (∀ q : Nat, q < H.size → t.heap[q]? = H[q]?) → XC cls s t)
    (hf : ∀ z ∈ locs, free z.base) (hc : cells + 1 ≤ mc) (hs : slots + 6 ≤ ms) :
    W p l e R s m args below meth c H locs cells slots (vx_MQ below Qc XC args s mc ms free) (F0 m pc ls rest) := by
  intro T hT X
  have htr : e.platform.stackTraces = false := (show e.platform.stackTraces = l.stackTraces by rw [X.admits.platform]).trans hl
  have Y := vx_rebase X (R' := { frames := R.frames, locals := R.locals, cells := 1, slots := 6 }) (Nat.le_refl _) (Nat.le_refl _) hRcells hRslots
  obtain ⟨s', hA⟩ : ∃ z, z = (T.setVm s.vm).setFrames (.invoking m args :: below) := ⟨_, rfl⟩
  rw [← hA] at Y
  have hvm : s'.vm = s.vm := by rw [hA]; rfl
  have hhp : s'.heap = H := by rw [hA]; exact hT
  have hW0 : s.WarmedH s'.vm := by rw [hvm]; exact State.WarmedH.refl s
  have hat' : ∀ w ∈ vx_atS own ic cls names, w.before args s' = true := fun w hw => vx_ot_at hW0 hvm.symm (hgood w (List.mem_cons_of_mem _ (List.mem_cons_of_mem _ hw))) (hat w hw)
  have hk' : (Cond.classLink own ik cls).before args s' = true := vx_ot_at hW0 hvm.symm (hgood _ List.mem_cons_self) hk
  have hini' : (Cond.initialized cls).before args s' = true := vx_ot_at hW0 hvm.symm (hgood _ (List.mem_cons_of_mem _ List.mem_cons_self)) hini
  have hU' : vx_Zq Bundle.tN "UNASSIGNED_STACK" Bundle.steD A s' s'.heap := by rw [hhp]; exact vx_Zq.moved hW0.alike (hU.kept hS.2.1)
  have hN' : vx_Zq Bundle.tN "SUPPRESSED_SENTINEL" Bundle.listD A s' s'.heap := by rw [hhp]; exact vx_Zq.moved hW0.alike (hN.kept hS.2.1)
  have h : ∀ w ∈ Bundle.ownAtoms own ic cls names, w.before args s' = true := vx_own hat' (vx_isRefq hU'.1) (vx_isRefq hN'.1) hU'.2.word hN'.2.word
  have hown' : s'.vm.findClass own = some m.cls := by rw [hvm]; exact hown
  have hins : (Cond.instantiable cls 6).before args s' = true := h _ (by simp [Bundle.ownAtoms])
  obtain ⟨vm₁, cX, kX, hfX, hkX, -, -, X₁, st1⟩ := Y.newCold hexec (own := own) (C := cls) (index := ik) (n := 6) hown' hk' hins hini'
    (g := F0 m pc ls rest) rfl (by rw [hb]; exact d0) (Nat.le_refl _) (Nat.le_refl _)
  generalize hT1 : (T.setVm vm₁).pushCell { cls := cX, slots := kX.instanceTypes.map defaultValue, vm := .none } = T1 at X₁ st1
  have hcat : (Value.ref T.heap.size).category = 1 := rfl
  have hcellA : T1.heap[T.heap.size]? = some (freshCell cX kX) := by rw [← hT1]; exact State.heap_pushCell_size _ _
  have d3' : decode c.code (pc + 3) = .ok (.dup, 1) := by rw [hb]; exact d3
  have d4' : decode c.code (pc + 4) = .ok (.ldc_w is, 3) := by rw [hb]; exact d4
  have hstr' : vk_R own is text sa s' := vk_R.warm hW0 hstr
  obtain ⟨U, hsteps, hrun, hend, hW, hsame, ce, hce, hO⟩ := X₁.ctorThrowS hexec htr (own := own) (cls := cls) (names := names) (ic := ic) hown' hcls hnames h (fun x hx => nomatch hx) hfX hkX hcellA (by rw [hhp, hT]; exact Nat.le_refl _) (msg := .ref sa) rfl
    (g := { method := m, pc := pc + 7, locals := ls, stack := .ref sa :: .ref T.heap.size :: .ref T.heap.size :: rest, locked := none }) rfl hsize rfl rfl (rest := rest) rfl
    (by rw [hb]; exact d7) (by rw [hb]; exact d10) hout hRframes (by simp only [List.map_cons, List.sum_cons, hcat]; omega) hlocks
  obtain ⟨f1, f2⟩ := vx_frame hsame
  rw [hhp] at f1 f2
  have hWs : s.WarmedH U.vm := State.WarmedH.trans hW0 hW
  have hcl : s.vm.findClass cls = some ce.cls := by
    have h9 := hO.cls
    rw [hvm] at h9
    exact h9
  have hall : s.sameButNew ({ U with vm := s.vm } : State) locs mc ms := by
    subst hA
    obtain ⟨e1, e2⟩ := hsame
    rw [State.setFrames_setFrames] at e1
    have h2 : (T.setVm s.vm).sameButNew ({ U with vm := s.vm } : State) [] (0 + 1) (0 + 6) := ⟨e1, e2⟩
    have h3 := X.same.trans h2
    rw [List.append_nil] at h3
    exact h3.mono hc hs
  refine ⟨U, ?_, .threw T.heap.size, hrun, hend, Or.inr ⟨T.heap.size, rfl, cls, ce, locs, hx U hWs.alike f1 (fun q hq => f2 q hq (fun z hz => nomatch hz)), hce, hO.vm, hcl, hWs, hall, hf⟩⟩
  refine st1 _ ?_
  show Steps p.tables e below (T1.setTop { method := m, pc := pc + 3, locals := ls, stack := .ref T.heap.size :: rest, locked := none }) _
  jvm_step X₁.here [X₁.here.top, hexec, d3', Value.category]
  exact X₁.ldcStringW hexec (own := own) (text := text) (index := is) (a := sa) hown' hstr'.1 hstr'.2
    (g := { method := m, pc := pc + 4, locals := ls, stack := .ref T.heap.size :: .ref T.heap.size :: rest, locked := none }) rfl d4' _ hsteps
end Ends
section Bodies
variable {l : Launch}
theorem vx_ofW {y : MethodName} {ws ws' : List Cond} {rm : Room} {Pc : Array Value → State → Prop} {Qc : Array Value → State → Outcome → State → Prop} {XC : String → State → State → Prop} {mc ms : Nat} {free : Addr → Prop} {cc : ByteArray} {maxL : Nat} {ret : Option FieldType}
    (hy : plainName y.cls = true) (hw : ws = Cond.code y cc maxL ret :: ws')
    (body : ∀ p e s m args below meth c s₁, BodyLoose p l y (headSpec ws rm) cc maxL ret e s m args below meth c s₁ → c.maxLocals = maxL → (∀ x ∈ c.exceptionTable.toList, False) → Pc args s →
      W p l e (headSpec ws rm).room s m args below meth c s.heap [] 0 0 (vx_MQ below Qc XC args s mc ms free) (entryFrame m args maxL)) : vx_Met l y ws rm Pc Qc XC mc ms free := by
  refine MetFree.of_bodyS (code := cc) (maxLocals := maxL) (ret := ret) hy ?_ ?_
  · intro args s m h hn
    obtain ⟨meth, c, h1, h2, h3, h4, h5, h6, -, -⟩ := Cond.code_spec hn (atoms_spec (ws := ws) h _ (by rw [hw]; exact List.mem_cons_self))
    exact ⟨meth, c, h1, h2, h3, h4, h5, h6⟩
  · intro p e s m args below meth c s₁ B hml hP _
    have hh0 : s₁.heap = s.heap := by rw [B.state]; rfl
    have ht : ∀ x ∈ c.exceptionTable.toList, False := by
      obtain ⟨meth9, c9, h1, h2, -, -, -, -, h7, -⟩ := Cond.code_spec B.named (atoms_spec (ws := ws) B.pre _ (by rw [hw]; exact List.mem_cons_self))
      cases Option.some.inj (h1.symm.trans B.method)
      cases Option.some.inj (h2.symm.trans (Stand.of_body B).code)
      intro x hx
      rw [Array.isEmpty_iff.mp h7] at hx
      cases hx
    obtain ⟨t, a1, o, b1, b2, b3⟩ := body p e s m args below meth c s₁ B hml ht hP s₁ hh0 (Stand.of_body B)
    exact ⟨t, o, a1, b1, b2, b3⟩
/-- the table of a body with handlers -/
theorem vx_table {p : Program} {x y : MethodName} {S : Spec} {cc bytes : ByteArray} {maxL maxL' : Nat} {ret ret' : Option FieldType} {e : Env} {s s₁ : State} {m : MethodId} {args : Array Value} {below : List Frame} {meth : Method} {c : Code} {hh : List (Nat × Nat × Nat × Nat)}
    (B : BodyLoose p l y S cc maxL ret e s m args below meth c s₁) (h : (Cond.codeWith y bytes maxL' ret' hh).before args s = true) : c.exceptionTable.toList = tableOf hh := by
  obtain ⟨m9, meth9, c9, hn9, h1, h2, -, -, h6, -⟩ := Cond.codeWith_spec h
  cases Option.some.inj (hn9.symm.trans B.named)
  cases Option.some.inj (h1.symm.trans B.method)
  cases Option.some.inj (h2.symm.trans (Stand.of_body B).code)
  rw [← h6, table_eq]
end Bodies
end VXA
/-! ===== END ===== -/
/-! ===== BEGIN a static call of a method with an exception table ===== -/
section VXS
variable {p : Program} {l : Launch} {e : Env} {R : Room} {s : State} {m : MethodId} {args : Array Value} {below : List Frame} {meth : Method} {c : Code} {T : State} {H : Heap} {locs : List Loc} {cells slots : Nat}
abbrev vx_CSW (R : Room) (s : State) (args : Array Value) (own : String) (index : Nat) (y : MethodName) (bytes : ByteArray) (maxL : Nat) (ret : Option FieldType) (hh : List (Nat × Nat × Nat × Nat)) (ws : List Cond) (rm : Room) (mc ms n : Nat) : Prop :=
  (rm.cells = mc ∧ rm.slots = ms ∧ rm.frames + 1 ≤ R.frames ∧ 8 + (maxL + 11) + rm.locals ≤ R.locals ∧ (∀ w ∈ ws, ∀ (a' : Array Value) (U : State), s.WarmedH U.vm → w.before a' U = true) ∧ Cond.codeWith y bytes maxL ret hh ∈ ws) ∧
  (Cond.codeWith y bytes maxL ret hh).before args s = true ∧ (Cond.initialized y.cls).before args s = true ∧ (y.cls ≠ "java/lang/invoke/MethodHandle" ∧ y.cls ≠ "java/lang/invoke/VarHandle") ∧
  (∀ sig, parseMethodDescriptor y.desc = some sig → n = sig.parameters.length) ∧ (Cond.methodLink own index y).before args s = true ∧ (Cond.static y).before args s = true
theorem vx_cwSW {own : String} {index maxL mc ms : Nat} {y : MethodName} {bytes : ByteArray} {ret : Option FieldType} {hh : List (Nat × Nat × Nat × Nat)} {Ts ws ws' : List Cond} {rm : Room} (n : Nat) (ht : ∀ w ∈ Ts, w.before args s = true) (hT : GoodIn Ts (va_wsS own index y ws)) (hw : ws = Cond.codeWith y bytes maxL ret hh :: ws') (hrc : rm.cells = mc) (hrs : rm.slots = ms)
    (hd : y.cls ≠ "java/lang/invoke/MethodHandle" ∧ y.cls ≠ "java/lang/invoke/VarHandle" ∧ (parseMethodDescriptor y.desc).map (fun d => d.parameters.length) = some n) (hR : rm.frames + 1 ≤ R.frames ∧ 8 + (maxL + 11) + rm.locals ≤ R.locals) :
    vx_CSW R s args own index y bytes maxL ret hh ws rm mc ms n := by
  have ok : ∀ w ∈ va_wsS own index y ws, w.before args s = true := fun w h => ht w (hT w h).1
  have hG : GoodIn Ts ws := fun w h => hT w (by unfold va_wsS; exact List.mem_append_right _ h)
  have hc : Cond.codeWith y bytes maxL ret hh ∈ ws := by rw [hw]; exact List.mem_cons_self
  refine ⟨⟨hrc, hrs, hR.1, hR.2, pay_in ht hG, hc⟩, ht _ (hG _ hc).1, ok _ (by simp [va_wsS]), ⟨hd.1, hd.2.1⟩, fun sig h => ?_, ok _ (by simp [va_wsS]), ok _ (by simp [va_wsS])⟩
  have h2 := hd.2.2
  rw [h] at h2
  exact (Option.some.inj h2).symm
theorem vx_callSW (X : Stand p l e R s m args below meth c T locs cells slots) (hexec : p.tables.exec = Jvm.exec) {own : String} {index : Nat} {y : MethodName} {bytes : ByteArray} {maxL : Nat} {ret : Option FieldType} {hh : List (Nat × Nat × Nat × Nat)}
    (hown : s.vm.findClass own = some m.cls) (hlink : (Cond.methodLink own index y).before args s = true) (hstat : (Cond.static y).before args s = true) (hinit : (Cond.initialized y.cls).before args s = true)
    (hcode : (Cond.codeWith y bytes maxL ret hh).before args s = true) (hy : y.cls ≠ "java/lang/invoke/MethodHandle" ∧ y.cls ≠ "java/lang/invoke/VarHandle")
    {W9 : Nat} {Pre : Pt → Array Value → Prop} {Post : Pt → Array Value → Option Value → Pt → Prop} (hK : Back l R p e below s args y 3 W9 Pre Post)
    {g : JFrame} (hg : g.method = m) (hsize : g.locals.size = c.maxLocals) {argsL rest : List Value} (hlen : ∀ sig, parseMethodDescriptor y.desc = some sig → argsL.length = sig.parameters.length)
    (hstack : g.stack = argsL.reverse ++ rest) (hW : 2 * g.monitorRoom + (rest.map fun v => v.category).sum ≤ W9) (hdg : decode c.code g.pc = .ok (.invokestatic index, 3))
    (hpre : ∀ vm₁, s.WarmedH vm₁ → Pre ⟨T.setVm vm₁, locs, cells, slots⟩ argsL.toArray) :
    ∃ (v : Option Value) (vm₁ : Vm) (B : Pt), s.WarmedH vm₁ ∧ Stand p l e R s m args below meth c B.U B.locs B.cells B.slots ∧ Post ⟨T.setVm vm₁, locs, cells, slots⟩ argsL.toArray v B ∧
      ∀ target, Steps p.tables e below (B.U.setTop { g with pc := g.pc + 3, stack := v.toList ++ rest }) target → Steps p.tables e below (T.setTop g) target := by
  obtain ⟨mk, methM, cM, hnamed, hmethM, -, -, -, -, -, -, hsigM⟩ := Cond.codeWith_spec hcode
  have hstatic : methM.isStatic = true := Cond.static_spec hnamed hmethM hstat
  obtain ⟨kP, hkP, -⟩ := className_of_methodNamed hnamed
  have hinitP : kP.init = .initialized := Cond.initialized_spec (findClass_of_methodNamed hnamed) hkP hinit
  obtain ⟨vm₁, X₁, hstep₁⟩ := X.invokestatic hexec hown hlink hnamed hmethM hstatic hkP hinitP hy (g := g) hg (argsL := argsL) (rest := rest) (hlen _ hsigM) hstack hdg
  obtain ⟨v, B, X', hpost, hsteps⟩ := hK m meth c ⟨T.setVm vm₁, locs, cells, slots⟩ { g with stack := rest } (.invokestatic index) mk argsL.toArray X₁ hg hsize hdg hW (X₁.named hnamed) (hpre vm₁ X₁.warmed)
  exact ⟨v, vm₁, B, X₁.warmed, X', hpost, fun target h => hstep₁ _ fun acts => by rw [doInvoke_state]; exact hsteps.trans h⟩
theorem vx_runSW {y : MethodName} {bytes cc : ByteArray} {maxL nL mc ms n index : Nat} {ret : Option FieldType} {hh : List (Nat × Nat × Nat × Nat)} {ws : List Cond} {rm : Room} {Pc : Array Value → State → Prop} {Qc : Array Value → State → Outcome → State → Prop} {free : Addr → Prop} {Ts : List Cond} {own : String} {As rest : List Value} {g : JFrame}
    (S : CallFix p m c cc nL s args Ts own) (hM : Met l y ws rm Pc Qc mc ms free) (cw : vx_CSW R s args own index y bytes maxL ret hh ws rm mc ms n) (hp : PreS s H Pc As)
    (hg : g.method = m) (hn : As.length = n) (hsize : g.locals.size = nL) (hstack : g.stack = As.reverse ++ rest) (hW : 2 * g.monitorRoom + (rest.map fun v => v.category).sum ≤ 8) (hdg : decode cc g.pc = .ok (.invokestatic index, 3)) (hf : cells + mc ≤ R.cells ∧ slots + ms ≤ R.slots) :
    va_Run p l e R s m args below meth c H locs cells slots mc ms g rest (Qc As.toArray) (free) := by
  obtain ⟨⟨hrc, hrs, hfr, hlo, hws, hcw⟩, hcode, hini, hy, hlen, hl, hstt⟩ := cw
  have hK : Back l R p e below s args y 3 8 (PreOf R mc ms Pc) (PostOf Qc mc ms free) := va_backW (hh := hh) (bytes := bytes) (maxL := maxL) (ret := ret) hM hp.1 hrc hrs hfr hlo hws hcw (fun a' U hW => word_at hW (Or.inl (by first | rfl | simp [Cond.onTables, Cond.keeps, Cond.steady])) hini)
  obtain ⟨hx, hb, hml, ho, -⟩ := S
  intro T hT X
  obtain ⟨v, vm₁, ⟨U', l2, c2, s2⟩, hW₁, X', ⟨g', mk, t, L, e1, e2, hq, h1, hL, h2, h3⟩, st⟩ := vx_callSW X hx (hh := hh) (bytes := bytes) (maxL := maxL) (ret := ret) ho hl hstt hini hcode hy hK hg (hsize.trans hml.symm) (argsL := As) (rest := rest) (fun sig h => hn.trans (hlen sig h)) hstack hW (by rw [hb]; exact hdg)
    (fun vm₁ hW₁ => ⟨hf.1, hf.2, hp.2 (T.setVm vm₁) hT hW₁⟩)
  dsimp only [Pt.U, Pt.locs, Pt.cells, Pt.slots] at X' e1 e2 h1 h2 h3 st
  subst h1; subst h2; subst h3
  exact ⟨v, (T.setVm vm₁).calling g' mk As.toArray, t, U', L, hT, X', hL, e1, e2, hq, st⟩
/-- not caught here, past rows that name other classes: it goes on to the caller -/
theorem vx_outP {p : Program} {l : Launch} {e : Env} {R : Room} {s : State} {m : MethodId} {args : Array Value} {below : List Frame} {meth : Method} {c : Code} {H : Heap} {locs : List Loc} {cells slots : Nat} {free : Addr → Prop} {ls : Array Slot} {rest : List Value} {Qc : Array Value → State → Outcome → State → Prop} {XC : String → State → State → Prop}
    {pc : Nat} {own E : String} {ce : Cell} {q : Addr} {mc ms : Nat} (hown : s.vm.findClass own = some m.cls) (hlocks : meth.locks = false)
    (hpass : ∀ z ∈ c.exceptionTable.toList, covers z pc = false ∨ (z.catchType ≠ 0 ∧ ∃ nm : String, (Cond.classLink own z.catchType nm).before args s = true ∧ va_Nc E nm s)) (hcell : H[q]? = some ce) (hv : ce.vm = .none) (hcl : s.vm.findClass E = some ce.cls)
    (hx : ∀ t : State, t.heap = H → s.vm.Alike t.vm → XC E s t) (hf : ∀ z ∈ locs, free z.base) (hc : cells ≤ mc) (hs : slots ≤ ms) :
    vx_W p l e R s m args below meth c H locs cells slots (vx_MQ below Qc XC args s mc ms free) (F0 m pc ls rest) q := by
  intro T hT X
  have hpl : e.platform.magicAccessors = ({} : Platform).magicAccessors := by rw [X.admits.platform]
  obtain ⟨vm', hW', X', st⟩ := X.outThrough hlocks q (g := F0 m pc ls rest) rfl rfl rfl (cell := ce) (by rw [hT]; exact hcell) (by rw [hv]; rfl)
    (by obtain ⟨k9, h9, -⟩ := Vm.findClass_spec hcl; exact ⟨k9, h9⟩) (fun z hz => by
      rcases hpass z hz with h | ⟨hz0, nm, hl1, hn1⟩
      · exact Or.inl h
      · obtain ⟨c6, hc6, hcl6⟩ := Cond.classLink_spec hown hl1 e.platform hpl
        obtain ⟨a8, b8, h1, h2, h3⟩ := hn1
        cases Option.some.inj (h1.symm.trans hcl)
        cases Option.some.inj (h2.symm.trans hc6)
        exact Or.inr ⟨hz0, _, hcl6, h3⟩)
  obtain ⟨g₀, hfr⟩ := X'.frames_eq
  have hcell9 : ((T.setVm vm').setFrames (.throwing q :: below)).heap[q]? = some ce := by
    show T.heap[q]? = some ce
    rw [hT]; exact hcell
  have hend : Ended ((T.setVm vm').setFrames (.throwing q :: below)) below (.threw q) := State.frames_setFrames _ (State.cur_lt_of_frames hfr)
  refine ⟨(T.setVm vm').setFrames (.throwing q :: below), ?_, .threw q, X'.here.running, hend, Or.inr ⟨q, rfl, E, ce, locs, hx _ hT (X'.ends _).1.alike, hcell9, hv, hcl, (X'.ends _).1, (X'.ends _).2.mono hc hs, hf⟩⟩
  rw [X.pushThrowing_eq]
  exact st
/-- a thing of a world lies in the heap -/
theorem vx_lt {D : va_G} {cl : List vw_C} {ws : va_W} {H1 : Heap} (h : va_P D cl ws H1) {k : Nat} {q : Nat × va_E} (hk : ws[k]? = some q) : q.1 < H1.size := (h k q hk).lt
end VXS
/-! ===== END ===== -/
/-! ===== BEGIN methods with a table of their own: called by a name, returning or throwing ===== -/
section VXH
/-! vx_backW, vx_callVX, vx_callSX, vx_callVW, vx_runVW, vx_runVX, vx_runSX, vx_ofWH follow the same proofs as their sisters above (Free/Laws.lean, Shelf42/LK1.lean); vx_outP calls Shelf42/NT130.lean (outThrough). -/
section
variable {l : Launch} {R : Room} {p : Program} {e : Env} {below : List Frame} {s : State} {sargs : Array Value} {y : MethodName} {len W9 : Nat}
theorem vx_backW {ws : List Cond} {rm : Room} {Pc : Array Value → State → Prop} {Qc : Array Value → State → Outcome → State → Prop} {XC : String → State → State → Prop} {mc ms : Nat} {free : Addr → Prop} {bytes : ByteArray} {maxL : Nat} {ret : Option FieldType} {hh : List (Nat × Nat × Nat × Nat)}
    (hM : vx_Met l y ws rm Pc Qc XC mc ms free) (hblind : FrameBlind Pc) (hrc : rm.cells = mc) (hrs : rm.slots = ms)
    (hframes : rm.frames + 1 ≤ R.frames) (hlocals : W9 + (maxL + 11) + rm.locals ≤ R.locals)
    (hws : ∀ w ∈ ws, ∀ a' U, s.WarmedH U.vm → w.before a' U = true) (hcode : Cond.codeWith y bytes maxL ret hh ∈ ws) (hinit : ∀ a' U, s.WarmedH U.vm → (Cond.initialized y.cls).before a' U = true) :
    vx_Back l R p e below s sargs y len W9 (PreOf R mc ms Pc) (PostOf Qc mc ms free) (vx_Post XC mc ms free) := by
  intro m meth c A g ig mk a X hg hsize hdg hW hn hp
  have h1 : (headSpec ws rm).pre.before a A.U = true := atoms_intro fun w hw => hws w hw _ _ X.warmed
  have h2 : (Cond.codeWith y bytes maxL ret hh).before a A.U = true := hws _ hcode _ _ X.warmed
  have h3 : (Cond.initialized y.cls).before a A.U = true := hinit _ _ X.warmed
  have h4 : A.cells + (headSpec ws rm).room.cells ≤ R.cells := by rw [show (headSpec ws rm).room.cells = mc from hrc]; exact hp.1
  have h5 : A.slots + (headSpec ws rm).room.slots ≤ R.slots := by rw [show (headSpec ws rm).room.slots = ms from hrs]; exact hp.2.1
  have hPc : Pc a (A.U.calling g mk a) := hblind _ _ _ _ hp.2.2
  obtain ⟨U, Ls, c0, s0⟩ := A
  dsimp only [Pt.U, Pt.locs, Pt.cells, Pt.slots] at h1 h2 h3 h4 h5 X hn hPc ⊢
  obtain ⟨m9, methY, cY, hn9, hmY, hcY, -, hlY, -⟩ := Cond.codeWith_spec h2
  cases Option.some.inj (hn9.symm.trans hn)
  obtain ⟨kY, hkY, -⟩ := className_of_methodNamed hn
  have hinitY : kY.init = .initialized := Cond.initialized_spec (findClass_of_methodNamed hn) hkY h3
  have h : At U g.method c below := by rw [hg]; exact X.here
  have hlocals9 : W9 + (maxL + 11) + (headSpec ws rm).room.locals ≤ R.locals := hlocals
  have happ : (headSpec ws rm).appliesLoose y e.platform (U.calling g mk a) = true :=
    Spec.appliesLoose_calling (g := g) h hdg hn hkY hinitY
      (X.room_calling (g := g) (R' := (headSpec ws rm).room) hsize hmY hcY hframes (by rw [hlY]; omega) h4 h5) h1
  obtain ⟨mid, hmid⟩ := h.above
  have hfr : (U.setTop g).frames = (.java g :: mid) ++ below := by rw [State.frames_setTop' g h.top, hmid]; rfl
  obtain ⟨o, s₂, hsteps, -, hend, hq⟩ := Steps.callFree hM p X.admits X.cas X.clock (acts := []) hfr happ hPc trivial
  have hq' : vx_Q Qc XC mc ms free a (U.calling g mk a) o s₂ := hq
  rw [State.frames_setTop' g h.top] at hend
  obtain ⟨g₀, hg0⟩ := Option.isSome_iff_exists.mp h.top
  obtain ⟨r, hr⟩ := State.topJava?_eq_some.mp hg0
  have hr' : (({ U with heap := s₂.heap, slotsUsed := s₂.slotsUsed } : State).setVm s₂.vm).frames = .java g₀ :: r := hr
  rcases hq' with ⟨hqc, L, hfe, hL⟩ | ⟨q, rfl, E, ce, L, hx, hce, hcv, hcl, hW₂, hsm, hL⟩
  · obtain ⟨⟨v, rfl⟩, hW₂, e2, q2, q3, q4, q5, q6⟩ := id hfe
    have e3 : s₂ = ({ (U.calling g mk a).setFrames s₂.frames with heap := s₂.heap, slotsUsed := s₂.slotsUsed } : State).setVm s₂.vm := by
      have : s₂ = ({ s₂ with vm := (U.calling g mk a).vm } : State).setVm s₂.vm := rfl
      rw [e2] at this
      exact this
    obtain ⟨c₂, i₂, len₂, hc₂, hd₂, hf₂⟩ := hend
    have hW' : U.WarmedH s₂.vm := hW₂
    have hcc : c₂ = c := by
      have h1 : s₂.code? g.method = U.code? g.method := by
        rw [State.code?_eq, State.code?_eq, hW'.alike.method?]
      exact Option.some.inj (hc₂.symm.trans (h1.trans h.code))
    subst hcc
    have hlen : len₂ = len := by rw [hdg] at hd₂; cases hd₂; rfl
    subst hlen
    have hs₂ : s₂ = (({ U with heap := s₂.heap, slotsUsed := s₂.slotsUsed } : State).setVm s₂.vm).setTop { g with pc := g.pc + len₂, stack := v.toList ++ g.stack } := by
      refine e3.trans ?_
      rw [hf₂, State.calling_eq h.top, State.setFrames_setFrames, State.setTop_of_frames _ hr', hr]
      rfl
    have hsame : U.sameButNew ({ U with heap := s₂.heap, slotsUsed := s₂.slotsUsed } : State) L mc ms := by
      refine ⟨?_, q2, q3, q4, q5, q6⟩
      obtain ⟨t, ht, -⟩ := State.frames_cons hr
      show ({ U with heap := s₂.heap, slotsUsed := s₂.slotsUsed } : State) = { U.setFrames U.frames with heap := s₂.heap, slotsUsed := s₂.slotsUsed }
      rw [State.setFrames_self ht]
    subst hg
    refine Or.inl ⟨v, ⟨(({ U with heap := s₂.heap, slotsUsed := s₂.slotsUsed } : State).setVm s₂.vm), Ls ++ L, c0 + mc, s0 + ms⟩,
      ⟨X.admits, X.cas, X.clock, X.frames, X.room, X.hears, X.method, X.code, (X.here.setHeapUsed s₂.heap s₂.slotsUsed).setVm hW'.alike, X.tail, State.WarmedH.trans X.warmed hW', X.limits, X.bytes, X.same.trans (hsame.setVm s.vm)⟩,
      ⟨g, mk, s₂, L, rfl, rfl, hqc, rfl, hL, rfl, rfl⟩, ?_⟩
    show Steps p.tables e below _ ((({ U with heap := s₂.heap, slotsUsed := s₂.slotsUsed } : State).setVm s₂.vm).setTop { g with pc := g.pc + len₂, stack := v.toList ++ g.stack })
    rw [← hs₂]
    exact hsteps
  · obtain ⟨e2, q2, q3, q4, q5, q6⟩ := id hsm
    have e3 : s₂ = ({ (U.calling g mk a).setFrames s₂.frames with heap := s₂.heap, slotsUsed := s₂.slotsUsed } : State).setVm s₂.vm := by
      have : s₂ = ({ s₂ with vm := (U.calling g mk a).vm } : State).setVm s₂.vm := rfl
      rw [e2] at this
      exact this
    have hf₂ : s₂.frames = .throwing q :: .java g :: U.frames.tail := hend
    have hW' : U.WarmedH s₂.vm := hW₂
    have hs₂ : s₂ = ((({ U with heap := s₂.heap, slotsUsed := s₂.slotsUsed } : State).setVm s₂.vm).setTop g).pushFrame (.throwing q) := by
      refine e3.trans ?_
      rw [hf₂, State.calling_eq h.top, State.setFrames_setFrames, State.pushFrame, State.frames_setTop _ hr', State.setTop_of_frames _ hr', State.setFrames_setFrames, hr]
      rfl
    have hsame : U.sameButNew ({ U with heap := s₂.heap, slotsUsed := s₂.slotsUsed } : State) L mc ms := by
      refine ⟨?_, q2, q3, q4, q5, q6⟩
      obtain ⟨t, ht, -⟩ := State.frames_cons hr
      show ({ U with heap := s₂.heap, slotsUsed := s₂.slotsUsed } : State) = { U.setFrames U.frames with heap := s₂.heap, slotsUsed := s₂.slotsUsed }
      rw [State.setFrames_self ht]
    subst hg
    refine Or.inr ⟨q, ⟨(({ U with heap := s₂.heap, slotsUsed := s₂.slotsUsed } : State).setVm s₂.vm), Ls ++ L, c0 + mc, s0 + ms⟩,
      ⟨X.admits, X.cas, X.clock, X.frames, X.room, X.hears, X.method, X.code, (X.here.setHeapUsed s₂.heap s₂.slotsUsed).setVm hW'.alike, X.tail, State.WarmedH.trans X.warmed hW', X.limits, X.bytes, X.same.trans (hsame.setVm s.vm)⟩,
      ⟨g, mk, s₂, L, E, ce, rfl, rfl, hx, hce, hcv, hcl, rfl, hL, rfl, rfl⟩, ?_⟩
    show Steps p.tables e below _ (((({ U with heap := s₂.heap, slotsUsed := s₂.slotsUsed } : State).setVm s₂.vm).setTop g).pushFrame (.throwing q))
    rw [← hs₂]
    exact hsteps
end
variable {p : Program} {l : Launch} {e : Env} {R : Room} {s : State} {m : MethodId} {args : Array Value} {below : List Frame} {meth : Method} {c : Code} {T : State} {H : Heap} {locs : List Loc} {cells slots : Nat}
theorem vx_callVX (X : Stand p l e R s m args below meth c T locs cells slots) (hexec : p.tables.exec = Jvm.exec) {own C : String} {index : Nat} {y : MethodName} {bytes : ByteArray} {maxL : Nat} {ret : Option FieldType} {hh : List (Nat × Nat × Nat × Nat)}
    (hown : s.vm.findClass own = some m.cls) (hlink : (Cond.methodLink own index y).before args s = true) (hinst : (Cond.instanceMethod y).before args s = true) (hsel : (Cond.selects C y y).before args s = true)
    (hcode : (Cond.codeWith y bytes maxL ret hh).before args s = true) (hy : y.cls ≠ "java/lang/invoke/MethodHandle" ∧ y.cls ≠ "java/lang/invoke/VarHandle")
    {W9 : Nat} {Pre : Pt → Array Value → Prop} {Post : Pt → Array Value → Option Value → Pt → Prop} {PostX : Pt → Array Value → Addr → Pt → Prop} (hK : vx_Back l R p e below s args y 3 W9 Pre Post PostX)
    {b : Addr} {cellB : Cell} (hcell : T.heap[b]? = some cellB) (hobj : cellB.vm.isStatics = false) (hcls : s.vm.findClass C = some cellB.cls)
    {g : JFrame} (hg : g.method = m) (hsize : g.locals.size = c.maxLocals) {argsL rest : List Value} (hlen : ∀ sig, parseMethodDescriptor y.desc = some sig → argsL.length = sig.parameters.length)
    (hstack : g.stack = argsL.reverse ++ .ref b :: rest) (hW : 2 * g.monitorRoom + (rest.map fun v => v.category).sum ≤ W9) (hdg : decode c.code g.pc = .ok (.invokevirtual index, 3))
    (hpre : ∀ vm₁, s.WarmedH vm₁ → Pre ⟨T.setVm vm₁, locs, cells, slots⟩ (Value.ref b :: argsL).toArray) :
    (∃ (v : Option Value) (vm₁ : Vm) (B : Pt), s.WarmedH vm₁ ∧ Stand p l e R s m args below meth c B.U B.locs B.cells B.slots ∧ Post ⟨T.setVm vm₁, locs, cells, slots⟩ (Value.ref b :: argsL).toArray v B ∧
      ∀ target, Steps p.tables e below (B.U.setTop { g with pc := g.pc + 3, stack := v.toList ++ rest }) target → Steps p.tables e below (T.setTop g) target) ∨
    (∃ (q : Addr) (vm₁ : Vm) (B : Pt), s.WarmedH vm₁ ∧ Stand p l e R s m args below meth c B.U B.locs B.cells B.slots ∧ PostX ⟨T.setVm vm₁, locs, cells, slots⟩ (Value.ref b :: argsL).toArray q B ∧
      Steps p.tables e below (T.setTop g) ((B.U.setTop { g with stack := rest }).pushFrame (.throwing q))) := by
  obtain ⟨mk, methM, hnamed, hmethM, hstM, habM⟩ := Cond.instanceMethod_spec hinst
  obtain ⟨m8, methM', cM, hn8, hmethM', -, -, -, -, -, -, hsigM⟩ := Cond.codeWith_spec hcode
  cases Option.some.inj (hn8.symm.trans hnamed)
  cases hmethM.symm.trans hmethM'
  obtain ⟨c2, r2, m2, q1, q2, q3, q4, kP, hkP, hkPi⟩ := Cond.selects_spec hsel
  cases hcls.symm.trans q1
  cases (State.methodFound?_of_named hnamed hy).symm.trans q2
  cases hnamed.symm.trans q3
  have hselP : selectMethod e.platform s.vm cellB.cls mk = .method mk := by rw [Launch.admits_selectMethod X.admits]; exact q4
  obtain ⟨vm₁, X₁, hstep₁⟩ := X.invokevirtual hexec hown hlink hnamed hmethM hstM hkP hkPi hy (a := b) (cell := cellB) hcell
    (fun z h => by rw [h] at hobj; cases hobj) hselP hmethM habM hkP hkPi (g := g) hg (argsL := argsL) (rest := rest) (hlen _ hsigM) hstack hdg
  rcases hK m meth c ⟨T.setVm vm₁, locs, cells, slots⟩ { g with stack := rest } (.invokevirtual index) mk (Value.ref b :: argsL).toArray X₁ hg hsize hdg hW (X₁.named hnamed) (hpre vm₁ X₁.warmed) with ⟨v, B, X', hpost, hsteps⟩ | ⟨q, B, X', hpost, hsteps⟩
  · exact Or.inl ⟨v, vm₁, B, X₁.warmed, X', hpost, fun target h => hstep₁ _ fun acts => by rw [doInvoke_state]; exact hsteps.trans h⟩
  · exact Or.inr ⟨q, vm₁, B, X₁.warmed, X', hpost, hstep₁ _ fun acts => by rw [doInvoke_state]; exact hsteps⟩
theorem vx_callSX (X : Stand p l e R s m args below meth c T locs cells slots) (hexec : p.tables.exec = Jvm.exec) {own : String} {index : Nat} {y : MethodName} {bytes : ByteArray} {maxL : Nat} {ret : Option FieldType} {hh : List (Nat × Nat × Nat × Nat)}
    (hown : s.vm.findClass own = some m.cls) (hlink : (Cond.methodLink own index y).before args s = true) (hstat : (Cond.static y).before args s = true) (hinit : (Cond.initialized y.cls).before args s = true)
    (hcode : (Cond.codeWith y bytes maxL ret hh).before args s = true) (hy : y.cls ≠ "java/lang/invoke/MethodHandle" ∧ y.cls ≠ "java/lang/invoke/VarHandle")
    {W9 : Nat} {Pre : Pt → Array Value → Prop} {Post : Pt → Array Value → Option Value → Pt → Prop} {PostX : Pt → Array Value → Addr → Pt → Prop} (hK : vx_Back l R p e below s args y 3 W9 Pre Post PostX)
    {g : JFrame} (hg : g.method = m) (hsize : g.locals.size = c.maxLocals) {argsL rest : List Value} (hlen : ∀ sig, parseMethodDescriptor y.desc = some sig → argsL.length = sig.parameters.length)
    (hstack : g.stack = argsL.reverse ++ rest) (hW : 2 * g.monitorRoom + (rest.map fun v => v.category).sum ≤ W9) (hdg : decode c.code g.pc = .ok (.invokestatic index, 3))
    (hpre : ∀ vm₁, s.WarmedH vm₁ → Pre ⟨T.setVm vm₁, locs, cells, slots⟩ argsL.toArray) :
    (∃ (v : Option Value) (vm₁ : Vm) (B : Pt), s.WarmedH vm₁ ∧ Stand p l e R s m args below meth c B.U B.locs B.cells B.slots ∧ Post ⟨T.setVm vm₁, locs, cells, slots⟩ argsL.toArray v B ∧
      ∀ target, Steps p.tables e below (B.U.setTop { g with pc := g.pc + 3, stack := v.toList ++ rest }) target → Steps p.tables e below (T.setTop g) target) ∨
    (∃ (q : Addr) (vm₁ : Vm) (B : Pt), s.WarmedH vm₁ ∧ Stand p l e R s m args below meth c B.U B.locs B.cells B.slots ∧ PostX ⟨T.setVm vm₁, locs, cells, slots⟩ argsL.toArray q B ∧
      Steps p.tables e below (T.setTop g) ((B.U.setTop { g with stack := rest }).pushFrame (.throwing q))) := by
  obtain ⟨mk, methM, cM, hnamed, hmethM, -, -, -, -, -, -, hsigM⟩ := Cond.codeWith_spec hcode
  have hstatic : methM.isStatic = true := Cond.static_spec hnamed hmethM hstat
  obtain ⟨kP, hkP, -⟩ := className_of_methodNamed hnamed
  have hinitP : kP.init = .initialized := Cond.initialized_spec (findClass_of_methodNamed hnamed) hkP hinit
  obtain ⟨vm₁, X₁, hstep₁⟩ := X.invokestatic hexec hown hlink hnamed hmethM hstatic hkP hinitP hy (g := g) hg (argsL := argsL) (rest := rest) (hlen _ hsigM) hstack hdg
  rcases hK m meth c ⟨T.setVm vm₁, locs, cells, slots⟩ { g with stack := rest } (.invokestatic index) mk argsL.toArray X₁ hg hsize hdg hW (X₁.named hnamed) (hpre vm₁ X₁.warmed) with ⟨v, B, X', hpost, hsteps⟩ | ⟨q, B, X', hpost, hsteps⟩
  · exact Or.inl ⟨v, vm₁, B, X₁.warmed, X', hpost, fun target h => hstep₁ _ fun acts => by rw [doInvoke_state]; exact hsteps.trans h⟩
  · exact Or.inr ⟨q, vm₁, B, X₁.warmed, X', hpost, hstep₁ _ fun acts => by rw [doInvoke_state]; exact hsteps⟩
theorem vx_callVW (X : Stand p l e R s m args below meth c T locs cells slots) (hexec : p.tables.exec = Jvm.exec) {own C : String} {index : Nat} {y : MethodName} {bytes : ByteArray} {maxL : Nat} {ret : Option FieldType} {hh : List (Nat × Nat × Nat × Nat)}
    (hown : s.vm.findClass own = some m.cls) (hlink : (Cond.methodLink own index y).before args s = true) (hinst : (Cond.instanceMethod y).before args s = true) (hsel : (Cond.selects C y y).before args s = true)
    (hcode : (Cond.codeWith y bytes maxL ret hh).before args s = true) (hy : y.cls ≠ "java/lang/invoke/MethodHandle" ∧ y.cls ≠ "java/lang/invoke/VarHandle")
    {W9 : Nat} {Pre : Pt → Array Value → Prop} {Post : Pt → Array Value → Option Value → Pt → Prop} (hK : Back l R p e below s args y 3 W9 Pre Post)
    {b : Addr} {cellB : Cell} (hcell : T.heap[b]? = some cellB) (hobj : cellB.vm.isStatics = false) (hcls : s.vm.findClass C = some cellB.cls)
    {g : JFrame} (hg : g.method = m) (hsize : g.locals.size = c.maxLocals) {argsL rest : List Value} (hlen : ∀ sig, parseMethodDescriptor y.desc = some sig → argsL.length = sig.parameters.length)
    (hstack : g.stack = argsL.reverse ++ .ref b :: rest) (hW : 2 * g.monitorRoom + (rest.map fun v => v.category).sum ≤ W9) (hdg : decode c.code g.pc = .ok (.invokevirtual index, 3))
    (hpre : ∀ vm₁, s.WarmedH vm₁ → Pre ⟨T.setVm vm₁, locs, cells, slots⟩ (Value.ref b :: argsL).toArray) :
    ∃ (v : Option Value) (vm₁ : Vm) (B : Pt), s.WarmedH vm₁ ∧ Stand p l e R s m args below meth c B.U B.locs B.cells B.slots ∧ Post ⟨T.setVm vm₁, locs, cells, slots⟩ (Value.ref b :: argsL).toArray v B ∧
      ∀ target, Steps p.tables e below (B.U.setTop { g with pc := g.pc + 3, stack := v.toList ++ rest }) target → Steps p.tables e below (T.setTop g) target := by
  obtain ⟨mk, methM, hnamed, hmethM, hstM, habM⟩ := Cond.instanceMethod_spec hinst
  obtain ⟨m8, methM', cM, hn8, hmethM', -, -, -, -, -, -, hsigM⟩ := Cond.codeWith_spec hcode
  cases Option.some.inj (hn8.symm.trans hnamed)
  cases hmethM.symm.trans hmethM'
  obtain ⟨c2, r2, m2, q1, q2, q3, q4, kP, hkP, hkPi⟩ := Cond.selects_spec hsel
  cases hcls.symm.trans q1
  cases (State.methodFound?_of_named hnamed hy).symm.trans q2
  cases hnamed.symm.trans q3
  have hselP : selectMethod e.platform s.vm cellB.cls mk = .method mk := by rw [Launch.admits_selectMethod X.admits]; exact q4
  obtain ⟨vm₁, X₁, hstep₁⟩ := X.invokevirtual hexec hown hlink hnamed hmethM hstM hkP hkPi hy (a := b) (cell := cellB) hcell
    (fun z h => by rw [h] at hobj; cases hobj) hselP hmethM habM hkP hkPi (g := g) hg (argsL := argsL) (rest := rest) (hlen _ hsigM) hstack hdg
  obtain ⟨v, B, X', hpost, hsteps⟩ := hK m meth c ⟨T.setVm vm₁, locs, cells, slots⟩ { g with stack := rest } (.invokevirtual index) mk (Value.ref b :: argsL).toArray X₁ hg hsize hdg hW (X₁.named hnamed) (hpre vm₁ X₁.warmed)
  exact ⟨v, vm₁, B, X₁.warmed, X', hpost, fun target h => hstep₁ _ fun acts => by rw [doInvoke_state]; exact hsteps.trans h⟩
abbrev vx_CVW (R : Room) (s : State) (args : Array Value) (own C : String) (index : Nat) (y : MethodName) (bytes : ByteArray) (maxL : Nat) (ret : Option FieldType) (hh : List (Nat × Nat × Nat × Nat)) (ws : List Cond) (rm : Room) (mc ms n : Nat) : Prop :=
  (rm.cells = mc ∧ rm.slots = ms ∧ rm.frames + 1 ≤ R.frames ∧ 8 + (maxL + 11) + rm.locals ≤ R.locals ∧ (∀ w ∈ ws, ∀ (a' : Array Value) (U : State), s.WarmedH U.vm → w.before a' U = true) ∧ Cond.codeWith y bytes maxL ret hh ∈ ws) ∧
  (Cond.codeWith y bytes maxL ret hh).before args s = true ∧ (Cond.initialized y.cls).before args s = true ∧ (y.cls ≠ "java/lang/invoke/MethodHandle" ∧ y.cls ≠ "java/lang/invoke/VarHandle") ∧
  (∀ sig, parseMethodDescriptor y.desc = some sig → n = sig.parameters.length) ∧ (Cond.methodLink own index y).before args s = true ∧ (Cond.instanceMethod y).before args s = true ∧ (Cond.selects C y y).before args s = true
theorem vx_cwVW {own C : String} {index maxL mc ms : Nat} {y : MethodName} {bytes : ByteArray} {ret : Option FieldType} {hh : List (Nat × Nat × Nat × Nat)} {Ts ws ws' : List Cond} {rm : Room} (n : Nat) (ht : ∀ w ∈ Ts, w.before args s = true) (hT : GoodIn Ts (wsV own index C y ws)) (hw : ws = Cond.codeWith y bytes maxL ret hh :: ws') (hrc : rm.cells = mc) (hrs : rm.slots = ms)
    (hd : y.cls = C ∧ y.cls ≠ "java/lang/invoke/MethodHandle" ∧ y.cls ≠ "java/lang/invoke/VarHandle" ∧ (parseMethodDescriptor y.desc).map (fun d => d.parameters.length) = some n) (hR : rm.frames + 1 ≤ R.frames ∧ 8 + (maxL + 11) + rm.locals ≤ R.locals) :
    vx_CVW R s args own C index y bytes maxL ret hh ws rm mc ms n := by
  obtain ⟨hC, hd⟩ := hd
  subst hC
  have ok : ∀ w ∈ wsV own index y.cls y ws, w.before args s = true := fun w h => ht w (hT w h).1
  have hG : GoodIn Ts ws := fun w h => hT w (by unfold wsV; exact List.mem_append_right _ h)
  have hc : Cond.codeWith y bytes maxL ret hh ∈ ws := by rw [hw]; exact List.mem_cons_self
  refine ⟨⟨hrc, hrs, hR.1, hR.2, pay_in ht hG, hc⟩, ht _ (hG _ hc).1, ok _ (by simp [wsV]), ⟨hd.1, hd.2.1⟩, fun sig h => ?_, ok _ (by simp [wsV]), ok _ (by simp [wsV]), ok _ (by simp [wsV])⟩
  have h2 := hd.2.2
  rw [h] at h2
  exact (Option.some.inj h2).symm
theorem vx_runVW {y : MethodName} {bytes cc : ByteArray} {maxL nL mc ms n index : Nat} {ret : Option FieldType} {hh : List (Nat × Nat × Nat × Nat)} {ws : List Cond} {rm : Room} {Pc : Array Value → State → Prop} {Qc : Array Value → State → Outcome → State → Prop} {free : Addr → Prop} {Ts : List Cond} {own C : String} {b : Addr} {As rest : List Value} {g : JFrame}
    (S : CallFix p m c cc nL s args Ts own) (hM : Met l y ws rm Pc Qc mc ms free) (cw : vx_CVW R s args own C index y bytes maxL ret hh ws rm mc ms n) (hp : PreV s H C b Pc As)
    (hg : g.method = m) (hn : As.length = n) (hsize : g.locals.size = nL) (hstack : g.stack = As.reverse ++ .ref b :: rest) (hW : 2 * g.monitorRoom + (rest.map fun v => v.category).sum ≤ 8) (hdg : decode cc g.pc = .ok (.invokevirtual index, 3)) (hf : cells + mc ≤ R.cells ∧ slots + ms ≤ R.slots) :
    va_Run p l e R s m args below meth c H locs cells slots mc ms g rest (Qc (Value.ref b :: As).toArray) free := by
  obtain ⟨⟨hrc, hrs, hfr, hlo, hws, hcw⟩, hcode, hini, hy, hlen, hl, hin, hse⟩ := cw
  have hK : Back l R p e below s args y 3 8 (PreOf R mc ms Pc) (PostOf Qc mc ms free) := va_backW (hh := hh) (bytes := bytes) (maxL := maxL) (ret := ret) hM hp.1 hrc hrs hfr hlo hws hcw (fun a' U hW => word_at hW (Or.inl (by first | rfl | simp [Cond.onTables, Cond.keeps, Cond.steady])) hini)
  obtain ⟨hx, hb, hml, ho, -⟩ := S
  obtain ⟨-, ⟨cellB, hcB, hoB, hclB⟩, hPc⟩ := hp
  intro T hT X
  obtain ⟨v, vm₁, ⟨U', l2, c2, s2⟩, hW₁, X', ⟨g', mk, t, L, e1, e2, hq, h1, hL, h2, h3⟩, st⟩ := vx_callVW X hx (C := C) (hh := hh) (bytes := bytes) (maxL := maxL) (ret := ret) ho hl hin hse hcode hy hK (by rw [hT]; exact hcB) hoB hclB hg (hsize.trans hml.symm) (argsL := As) (rest := rest) (fun sig h => hn.trans (hlen sig h)) hstack hW (by rw [hb]; exact hdg)
    (fun vm₁ hW₁ => ⟨hf.1, hf.2, hPc (T.setVm vm₁) hT hW₁⟩)
  dsimp only [Pt.U, Pt.locs, Pt.cells, Pt.slots] at X' e1 e2 h1 h2 h3 st
  subst h1; subst h2; subst h3
  exact ⟨v, (T.setVm vm₁).calling g' mk (Value.ref b :: As).toArray, t, U', L, hT, X', hL, e1, e2, hq, st⟩
section
variable {y : MethodName} {bytes cc : ByteArray} {maxL nL mc ms n index : Nat} {ret : Option FieldType} {ws : List Cond} {rm : Room} {Pc : Array Value → State → Prop} {Qc : Array Value → State → Outcome → State → Prop} {XC : String → State → State → Prop} {free : Addr → Prop} {Ts : List Cond} {own C : String} {b : Addr} {As rest : List Value} {g : JFrame}
theorem vx_runVX {hh : List (Nat × Nat × Nat × Nat)} (S : CallFix p m c cc nL s args Ts own) (hM : vx_Met l y ws rm Pc Qc XC mc ms free) (cw : vx_CVW R s args own C index y bytes maxL ret hh ws rm mc ms n) (hp : PreV s H C b Pc As)
    (hg : g.method = m) (hn : As.length = n) (hsize : g.locals.size = nL) (hstack : g.stack = As.reverse ++ .ref b :: rest) (hW : 2 * g.monitorRoom + (rest.map fun v => v.category).sum ≤ 8) (hdg : decode cc g.pc = .ok (.invokevirtual index, 3)) (hf : cells + mc ≤ R.cells ∧ slots + ms ≤ R.slots) :
    vx_Run p l e R s m args below meth c H locs cells slots mc ms g rest (Qc (Value.ref b :: As).toArray) XC free := by
  obtain ⟨⟨hrc, hrs, hfr, hlo, hws, hcw⟩, hcode, hini, hy, hlen, hl, hin, hse⟩ := cw
  have hK : vx_Back l R p e below s args y 3 8 (PreOf R mc ms Pc) (PostOf Qc mc ms free) (vx_Post XC mc ms free) := vx_backW (hh := hh) (bytes := bytes) (maxL := maxL) (ret := ret) hM hp.1 hrc hrs hfr hlo hws hcw (fun a' U hW => word_at hW (Or.inl (by first | rfl | simp [Cond.onTables, Cond.keeps, Cond.steady])) hini)
  obtain ⟨hx, hb, hml, ho, -⟩ := S
  obtain ⟨-, ⟨cellB, hcB, hoB, hclB⟩, hPc⟩ := hp
  intro T hT X
  rcases vx_callVX X hx (C := C) (hh := hh) (bytes := bytes) (maxL := maxL) (ret := ret) ho hl hin hse hcode hy hK (by rw [hT]; exact hcB) hoB hclB hg (hsize.trans hml.symm) (argsL := As) (rest := rest) (fun sig h => hn.trans (hlen sig h)) hstack hW (by rw [hb]; exact hdg)
    (fun vm₁ hW₁ => ⟨hf.1, hf.2, hPc (T.setVm vm₁) hT hW₁⟩) with ⟨v, vm₁, ⟨U', l2, c2, s2⟩, hW₁, X', ⟨g', mk, t, L, e1, e2, hq, h1, hL, h2, h3⟩, st⟩ | ⟨q, vm₁, ⟨U', l2, c2, s2⟩, hW₁, X', ⟨g', mk, t, L, E, ce, e1, e2, hq, hce, hcv, hcl, h1, hL, h2, h3⟩, st⟩
  · dsimp only [Pt.U, Pt.locs, Pt.cells, Pt.slots] at X' e1 e2 h1 h2 h3 st
    subst h1; subst h2; subst h3
    exact Or.inl ⟨v, (T.setVm vm₁).calling g' mk (Value.ref b :: As).toArray, t, U', L, hT, X', hL, e1, e2, hq, st⟩
  · dsimp only [Pt.U, Pt.locs, Pt.cells, Pt.slots] at X' e1 e2 h1 h2 h3 st hcl
    subst h1; subst h2; subst h3
    exact Or.inr ⟨q, (T.setVm vm₁).calling g' mk (Value.ref b :: As).toArray, t, U', L, E, ce, hT, X', hL, e1, e2, hq, hce, hcv, vx_cls hW₁ hcl, st⟩
theorem vx_runSX {hh : List (Nat × Nat × Nat × Nat)} (S : CallFix p m c cc nL s args Ts own) (hM : vx_Met l y ws rm Pc Qc XC mc ms free) (cw : vx_CSW R s args own index y bytes maxL ret hh ws rm mc ms n) (hp : PreS s H Pc As)
    (hg : g.method = m) (hn : As.length = n) (hsize : g.locals.size = nL) (hstack : g.stack = As.reverse ++ rest) (hW : 2 * g.monitorRoom + (rest.map fun v => v.category).sum ≤ 8) (hdg : decode cc g.pc = .ok (.invokestatic index, 3)) (hf : cells + mc ≤ R.cells ∧ slots + ms ≤ R.slots) :
    vx_Run p l e R s m args below meth c H locs cells slots mc ms g rest (Qc As.toArray) XC free := by
  obtain ⟨⟨hrc, hrs, hfr, hlo, hws, hcw⟩, hcode, hini, hy, hlen, hl, hstt⟩ := cw
  have hK : vx_Back l R p e below s args y 3 8 (PreOf R mc ms Pc) (PostOf Qc mc ms free) (vx_Post XC mc ms free) := vx_backW (hh := hh) (bytes := bytes) (maxL := maxL) (ret := ret) hM hp.1 hrc hrs hfr hlo hws hcw (fun a' U hW => word_at hW (Or.inl (by first | rfl | simp [Cond.onTables, Cond.keeps, Cond.steady])) hini)
  obtain ⟨hx, hb, hml, ho, -⟩ := S
  intro T hT X
  rcases vx_callSX X hx (hh := hh) (bytes := bytes) (maxL := maxL) (ret := ret) ho hl hstt hini hcode hy hK hg (hsize.trans hml.symm) (argsL := As) (rest := rest) (fun sig h => hn.trans (hlen sig h)) hstack hW (by rw [hb]; exact hdg)
    (fun vm₁ hW₁ => ⟨hf.1, hf.2, hp.2 (T.setVm vm₁) hT hW₁⟩) with ⟨v, vm₁, ⟨U', l2, c2, s2⟩, hW₁, X', ⟨g', mk, t, L, e1, e2, hq, h1, hL, h2, h3⟩, st⟩ | ⟨q, vm₁, ⟨U', l2, c2, s2⟩, hW₁, X', ⟨g', mk, t, L, E, ce, e1, e2, hq, hce, hcv, hcl, h1, hL, h2, h3⟩, st⟩
  · dsimp only [Pt.U, Pt.locs, Pt.cells, Pt.slots] at X' e1 e2 h1 h2 h3 st
    subst h1; subst h2; subst h3
    exact Or.inl ⟨v, (T.setVm vm₁).calling g' mk As.toArray, t, U', L, hT, X', hL, e1, e2, hq, st⟩
  · dsimp only [Pt.U, Pt.locs, Pt.cells, Pt.slots] at X' e1 e2 h1 h2 h3 st hcl
    subst h1; subst h2; subst h3
    exact Or.inr ⟨q, (T.setVm vm₁).calling g' mk As.toArray, t, U', L, E, ce, hT, X', hL, e1, e2, hq, hce, hcv, vx_cls hW₁ hcl, st⟩
end
end VXH
theorem vx_ofWH {l : Launch} {y : MethodName} {ws ws' : List Cond} {rm : Room} {Pc : Array Value → State → Prop} {Qc : Array Value → State → Outcome → State → Prop} {XC : String → State → State → Prop} {mc ms : Nat} {free : Addr → Prop} {cc : ByteArray} {maxL : Nat} {ret : Option FieldType} {hh : List (Nat × Nat × Nat × Nat)}
    (hy : plainName y.cls = true) (hw : ws = Cond.codeWith y cc maxL ret hh :: ws')
    (body : ∀ p e s m args below meth c s₁, BodyLoose p l y (headSpec ws rm) cc maxL ret e s m args below meth c s₁ → c.maxLocals = maxL → Pc args s →
      W p l e (headSpec ws rm).room s m args below meth c s.heap [] 0 0 (vx_MQ below Qc XC args s mc ms free) (entryFrame m args maxL)) : vx_Met l y ws rm Pc Qc XC mc ms free := by
  refine MetFree.of_bodyS (code := cc) (maxLocals := maxL) (ret := ret) hy ?_ ?_
  · intro args s m h hn
    obtain ⟨m9, meth, c, hn9, h1, h2, h3, h4, -, h5, h6, -⟩ := Cond.codeWith_spec (atoms_spec (ws := ws) h _ (by rw [hw]; exact List.mem_cons_self))
    cases hn.symm.trans hn9
    exact ⟨meth, c, h1, h2, h3, h4, h5, h6⟩
  · intro p e s m args below meth c s₁ B hml hP _
    have hh0 : s₁.heap = s.heap := by rw [B.state]; rfl
    obtain ⟨t, a1, o, b1, b2, b3⟩ := body p e s m args below meth c s₁ B hml hP s₁ hh0 (Stand.of_body B)
    exact ⟨t, o, a1, b1, b2, b3⟩
/-! ===== END ===== -/
/-! ===== BEGIN what the machine throws by itself, no traces kept ===== -/
section VXM
set_option maxHeartbeats 1000000 in
/-- the machine throws cls with the message text, no traces kept: from its note over the frame g to 'throwing' over the same frame (follows the proofs of Stand.vmThrowsMessage, Shelf/KitTracedVmS.lean, and Stand.throwsMessageColdBareV, StandMessageColdV.lean, without the step out of the frame) -/
theorem vx_vmAt {p : Program} {l : Launch} {e : Env} {R : Room} {s : State} {m₀ : MethodId} {args : Array Value} {below : List Frame} {meth : Method} {c : Code} {W : State} {locs : List Loc} {cells slots : Nat}
    (X : Stand p l e R s m₀ args below meth c W locs cells slots) (hexec : p.tables.exec = Jvm.exec) (htr : e.platform.stackTraces = false) {cls : String} {names : List String} {text : String}
    (hcls : Bundle.fit cls = true) (hnames : ∀ n ∈ names, Bundle.fit n = true) (hsoe : (cls == "java/lang/StackOverflowError") = false) (hoom : (cls == "java/lang/OutOfMemoryError") = false)
    (h : ∀ a ∈ Bundle.messageArmAtoms cls names, a.before args s = true)
    (hlocs : ∀ x ∈ locs, ∀ cell, s.heap[x.base]? = some cell → cell.vm.isStatics = false)
    (htext : (text == notModelled) = false) (hlimit : ¬ (stringBytes (stringToUtf16 text)).size > e.platform.arrayLengthLimit) (hheap : ¬ (stringBytes (stringToUtf16 text)).size * componentBytes .byte > e.platform.maxHeapBytes)
    {g : JFrame} (hg : g.method = m₀) (hsize : g.locals.size = c.maxLocals)
    (hRframes : names.length + 4 < R.frames) (hRlocals : 2 * g.monitorRoom + (g.stack.map fun v => v.category).sum + 10240 ≤ R.locals) (hshort : 13 * names.length + 55 ≤ 10240)
    (hRcells : cells + 3 ≤ R.cells) (hRslots : slots + ((stringBytes (stringToUtf16 text)).size + 4 + 6) ≤ R.slots) (hlocks : meth.locks = false) :
    ∃ (S : State) (q : Addr) (ce : Cell), (∀ target, Steps p.tables e below ((S.setTop g).pushFrame (.throwing q)) target → Steps p.tables e below ((W.setTop g).pushFrame (.throwNew cls (some text) none)) target) ∧
      Stand p l e R s m₀ args below meth c S locs (cells + 3) (slots + ((stringBytes (stringToUtf16 text)).size + 4 + 6)) ∧ S.heap[q]? = some ce ∧ s.vm.findClass cls = some ce.cls ∧ ce.vm = .none := by
  have howns : e.platform.frameOwnsMonitors = true := by rw [X.admits.platform]
  have hfin : e.platform.finalization = false := by rw [X.admits.platform]
  have hpl : e.platform.magicAccessors = ({} : Platform).magicAccessors := by rw [X.admits.platform]
  have a : ∀ x, x ∈ Bundle.messageArmAtoms cls names → x.holds args s none s [] = true := fun x hx => h x hx
  obtain ⟨T, Z0, L, -, Y⟩ := ThrowableC.of_atoms (args := args) howns hfin hpl (fun x hx => h x (by simp [Bundle.messageArmAtoms, hx]))
  obtain ⟨Z, M, LZ, LM, hnZ⟩ := Init0T.ofS_atoms (args := args) hpl L Y (fun x hx => h x (by simp [Bundle.messageArmAtoms, hx]))
  obtain ⟨P1, Ps, hlen, L1, hL, hP1m, hlink1, hlink⟩ := Bundle.chainS (args := args) hpl hnZ names cls hcls hnames (fun x hx => h x (by simp [Bundle.messageArmAtoms, hx]))
  obtain ⟨Zs, LZs, hn4, hfitv, hfitc⟩ := StringT.of_atoms (args := args) (fun x hx => h x (by simp [Bundle.messageArmAtoms, hx]))
  have hfound : s.vm.findClass cls = some P1.m.cls := findClass_of_methodNamed hP1m
  obtain ⟨c1, kX, hc1, hk, hord, -, -, hn6⟩ := Cond.instantiable_spec (a (.instantiable cls 6) (by simp [Bundle.messageArmAtoms]))
  cases Option.some.inj (hc1.symm.trans hfound)
  have hinit := Cond.initialized_spec hfound hk (a (.initialized cls) (by simp [Bundle.messageArmAtoms]))
  have hctor : kX.findMethod "<init>" "(Ljava/lang/String;)V" = some P1.m.idx := findMethod_of_methodNamed hP1m hk
  have hsel0 : selectMethod e.platform s.vm P1.m.cls T.fill0 = .method T.fill0 := by
    obtain ⟨c2, r2, m2, q1, q2, q3, q4, -⟩ := Cond.selects_spec (a (.selects cls Bundle.tFill0 Bundle.tFill0) (by simp [Bundle.messageArmAtoms]))
    cases Option.some.inj (q1.symm.trans hfound)
    cases Option.some.inj (q2.symm.trans (State.methodFound?_of_named Y.fill0 (by decide)))
    cases Option.some.inj (q3.symm.trans Y.fill0)
    rw [Launch.admits_selectMethod X.admits]; exact q4
  have hselF : selectMethod e.platform s.vm P1.m.cls T.fill = .method T.fill := by
    obtain ⟨c2, r2, m2, q1, q2, q3, q4, -⟩ := Cond.selects_spec (a (.selects cls Bundle.tFill Bundle.tFill) (by simp [Bundle.messageArmAtoms]))
    cases Option.some.inj (q1.symm.trans hfound)
    cases Option.some.inj (q2.symm.trans (State.methodFound?_of_named Y.fill (by decide)))
    cases Option.some.inj (q3.symm.trans Y.fill)
    rw [Launch.admits_selectMethod X.admits]; exact q4
  obtain ⟨cellS0, hcS0, hiss⟩ := Y.statics
  obtain ⟨u0, hu0⟩ := Cond.staticRefV Y.unassigned L.unassignedStatic L.statics hcS0 hiss (a (.isRef (.static Bundle.tN "UNASSIGNED_STACK" Bundle.steD)) (by simp [Bundle.messageArmAtoms]))
  obtain ⟨sen, hsen⟩ := Cond.staticRefV Y.sentinel L.sentinelStatic L.statics hcS0 hiss (a (.isRef (.static Bundle.tN "SUPPRESSED_SENTINEL" Bundle.listD)) (by simp [Bundle.messageArmAtoms]))
  obtain ⟨ci198, i198, fB, hk198, hg198, ha198, hsB, -, hnB, htB, hffB⟩ := Cond.ownField (t := .object "java/lang/Object") Y.found L.cls (by decide +kernel) (a (.fieldLink Bundle.tN 198 Bundle.tN "backtrace" "Ljava/lang/Object;") (by simp [Bundle.messageArmAtoms])) (a (.lays Bundle.tN Bundle.tN "backtrace" "Ljava/lang/Object;") (by simp [Bundle.messageArmAtoms])) e.platform hpl
  obtain ⟨cellS, hcS', heS, -, hkeep⟩ := X.same.2.2.2.2.2 T.aS cellS0 hcS0
  have hcellS : W.heap[T.aS]? = some cellS := hcS'
  have hout' : ∀ i, (⟨T.aS, i⟩ : Loc) ∉ locs := fun i hmem => by
    have := hlocs _ hmem cellS0 hcS0
    rw [hiss] at this; cases this
  have hknownS : cellS.vm ≠ .unknown := by
    rw [heS]; intro hu
    rw [show cellS0.vm = .unknown from hu] at hiss
    cases hiss
  have hvU : cellS.slots[T.fUnassigned.slot]? = some u0.v := by rw [hkeep _ (hout' _)]; exact hu0
  have hvSen : cellS.slots[T.fSentinel.slot]? = some sen.v := by rw [hkeep _ (hout' _)]; exact hsen
  obtain ⟨iM, hffM⟩ := Y.msg
  obtain ⟨tyC, dC, hdC, hdnC⟩ := Cond.laysAt hfound hk Y.cause (a (.lays cls Bundle.tN "cause" "Ljava/lang/Throwable;") (by simp [Bundle.messageArmAtoms]))
  obtain ⟨tyS, dS, hdS, hdnS⟩ := Cond.laysAt hfound hk Y.stack (a (.lays cls Bundle.tN "stackTrace" Bundle.steD) (by simp [Bundle.messageArmAtoms]))
  obtain ⟨tyP, dP, hdP, hdnP⟩ := Cond.laysAt hfound hk Y.supp (a (.lays cls Bundle.tN "suppressedExceptions" Bundle.listD) (by simp [Bundle.messageArmAtoms]))
  obtain ⟨tyM, dM, hdM, hdnM⟩ := Cond.laysAt hfound hk hffM (a (.lays cls Bundle.tN "detailMessage" "Ljava/lang/String;") (by simp [Bundle.messageArmAtoms]))
  obtain ⟨tyB, dB, hdB, hdnB⟩ := Cond.laysAt hfound hk hffB (a (.lays cls Bundle.tN "backtrace" "Ljava/lang/Object;") (by simp [Bundle.messageArmAtoms]))
  have bC := Cond.laysApart hdB hdC hdnB hdnC (by rw [hnB, Y.causeName]; decide)
  have bS := Cond.laysApart hdB hdS hdnB hdnS (by rw [hnB, Y.stackName]; decide)
  have bP := Cond.laysApart hdB hdP hdnB hdnP (by rw [hnB, Y.suppName]; decide)
  have hbk : ((preparedCellV T.toThrowableT (freshCell P1.m.cls kX) (W.heap.size + 2) u0 sen).withEntry W.cur).slots[fB.slot]? = some .null := by
    have := fresh_default (c := P1.m.cls) tyB
    rw [htB] at this
    simpa [preparedCellV, Cell.setSlot, Cell.withEntry, Array.getElem?_setIfInBounds, bC, bS, bP, bC.symm, bS.symm, bP.symm, defaultValue] using this
  have tkC := Takes.of_laid (v := .ref (W.heap.size + 2)) hk hord tyC (by rw [Y.causeType]; rfl)
  have tkS := Takes.of_laid (v := u0.v) hk hord tyS (by rw [Y.stackType]; exact fits_refV_array _ u0)
  have tkP := Takes.of_laid (v := sen.v) hk hord tyP (by rw [Y.suppType]; exact fits_refV_object _ sen)
  have tkM := Takes.of_laid (v := .ref (W.heap.size + 1)) hk hord tyM (by rw [Y.msgType]; rfl)
  have hskip : SkipFacts T e.platform s (fun u => u) u0 ((preparedCellV T.toThrowableT (freshCell P1.m.cls kX) (W.heap.size + 2) u0 sen).withEntry W.cur) := ⟨{ ci198 := ci198, i198 := i198, fBack := fB }, ⟨hk198, hg198, ha198, hsB⟩, hbk, fun _ _ => rfl⟩
  have h0 : At W g.method c below := by rw [hg]; exact X.here
  obtain ⟨hbeyond, hfreeW⟩ := X.vmMayThrow hsize (.throwNew cls (some text) none) (fun f hf => by cases hf) rfl hRlocals
  have hfr' : W.frames.length + Ps.length + 4 < (e.platform.stackLimits W.me).1 := by have := X.framesAbove hRframes; omega
  have hwd' : (stackUse (.java g :: W.frames.tail)).2 + 13 * Ps.length + 55 ≤ (e.platform.stackLimits W.me).2 := by have := X.stackAbove hsize (K := 13 * Ps.length + 55) (by omega); omega
  have hslots : W.slotsUsed + (stringBytes (stringToUtf16 text)).size + Zs.kS.instanceTypes.size + kX.instanceTypes.size ≤ e.platform.maxSlots := by
    have := X.slotsAbove hRslots
    rw [hn4, hn6]
    omega
  obtain ⟨vm', hW', st⟩ := Steps.vmThrowsMessageColdByV p (s₀ := s) (S := W) (g := g) h0 hexec T L Z LZ M LM X.warmed (t := W.cur) rfl Zs LZs P1 L1 Ps hL hlink1 hlink hsoe hoom hfound hk hinit hord hctor
    (Launch.admits_hotImplicitExceptions X.admits) hbeyond hfreeW htext hlimit hheap (X.cellsAbove hRcells) hslots (hfitv _) (hfitc _)
    (Nn := fun u => u) heapOnly_id (fun _ _ => rfl) (fun _ => rfl) (fun u x y => setCell_twice _ _ _ _) (fun _ => Nat.le_refl _) (cN := ((preparedCellV T.toThrowableT (freshCell P1.m.cls kX) (W.heap.size + 2) u0 sen).withEntry W.cur))
    hsel0 hcellS hknownS hvU tkS (fun _ hu => hu) (fun _ hu => hu) rfl rfl rfl (by simp [preparedCellV, Cell.setSlot, Cell.withEntry]) hskip (fun _ _ hA hW _ hroom _ hrest => L.nativeOff p htr hA hW hroom hrest) hselF hvSen tkC tkP tkM Y.objLocals rfl hfr' hwd'
  rw [plainBareV_eq T.toThrowableT (W.heap.size + 2) u0 sen (.ref (W.heap.size + 1)) W.cur rfl rfl] at st
  obtain ⟨-, -, w3, w4, -, -, -⟩ := withThrown_facts e.platform W Zs text P1.m.cls kX
  have X3 := ((X.pushed (bytesOf Zs.cB (stringToUtf16 text))).pushed (stringAt Zs.cS Zs.kS Zs.fv Zs.fc (stringToUtf16 text) W.heap.size)).pushed (freshCell P1.m.cls kX)
  rw [← withString_eq] at X3
  have X4 := X3.noted hW'
  have ha : (W.heap.size + 2) < ((withThrown W Zs text P1.m.cls kX).setVm vm').heap.size := by show _ < (withThrown W Zs text P1.m.cls kX).heap.size; rw [w3]; omega
  have hcell : ((withThrown W Zs text P1.m.cls kX).setVm vm').heap[(W.heap.size + 2)]? = some (freshCell P1.m.cls kX) := w4
  have X5 := ((((X4.stored hcell T.fCause.slot (.ref (W.heap.size + 2))).storedAgain ha T.fStack.slot u0.v).storedAgain ha T.fSupp.slot sen.v).storedAgain ha T.fStack.slot u0.v).storedAgain ha T.fMsg.slot (.ref (W.heap.size + 1))
  obtain ⟨g₁, hfrM⟩ := X5.frames_eq
  have hU : ((((withThrown W Zs text P1.m.cls kX).setVm vm').setCell (W.heap.size + 2) (plainBareV T.toThrowableT (freshCell P1.m.cls kX) (W.heap.size + 2) u0 sen (.ref (W.heap.size + 1)))).setTop g).pushFrame (.throwing (W.heap.size + 2)) = (((withThrown W Zs text P1.m.cls kX).setVm vm').setCell (W.heap.size + 2) (plainBareV T.toThrowableT (freshCell P1.m.cls kX) (W.heap.size + 2) u0 sen (.ref (W.heap.size + 1)))).setFrames (.throwing (W.heap.size + 2) :: .java g :: below) := by
    rw [State.pushFrame, State.frames_setTop _ hfrM, State.setTop_of_frames _ hfrM, State.setFrames_setFrames]
  have b1 : (bytesOf Zs.cB (stringToUtf16 text)).slots.size = (stringBytes (stringToUtf16 text)).size := by
    rw [(Cell.writeAll_facts _ _).2.2]; simp [bytes0]
  have b2 : (stringAt Zs.cS Zs.kS Zs.fv Zs.fc (stringToUtf16 text) W.heap.size).slots.size = 4 := by simp [string0, Cell.setSlot, hn4]
  have b3 : (freshCell P1.m.cls kX).slots.size = 6 := by simp [hn6]
  rw [b1, b2, b3] at X5
  have e9 : slots + (stringBytes (stringToUtf16 text)).size + 4 + 6 = slots + ((stringBytes (stringToUtf16 text)).size + 4 + 6) := by omega
  rw [e9] at X5
  simp only [List.append_assoc, List.cons_append, List.nil_append] at X5
  refine ⟨((withThrown W Zs text P1.m.cls kX).setVm vm').setCell (W.heap.size + 2) (plainBareV T.toThrowableT (freshCell P1.m.cls kX) (W.heap.size + 2) u0 sen (.ref (W.heap.size + 1))), W.heap.size + 2, _, fun target ht => st _ (by rw [X.tail, ← hU]; exact ht),
    X5.forget (fun y hy => ?_), heapAt_setCell_self _ ha, hfound, rfl⟩
  simp only [List.mem_cons, List.not_mem_nil, or_false] at hy
  have hge : s.heap.size ≤ W.heap.size := X.same.2.1
  rcases hy with rfl | rfl | rfl | rfl | rfl <;> exact Nat.le_trans hge (Nat.le_add_right _ 2)
set_option maxHeartbeats 1000000 in
/-- the machine throws NullPointerException, no traces kept: from its note over the frame g to 'throwing' over the same frame (follows the proof of Stand.vmThrowsNpe, Shelf42/KT2.lean; throwsNpeColdBareVAt, Shelf42/NT91.lean, called) -/
theorem vx_npeAt {p : Program} {l : Launch} {e : Env} {R : Room} {s : State} {m₀ : MethodId} {args : Array Value} {below : List Frame} {meth : Method} {c : Code} {W : State} {locs : List Loc} {cells slots : Nat}
    (X : Stand p l e R s m₀ args below meth c W locs cells slots) (hexec : p.tables.exec = Jvm.exec) (htr : e.platform.stackTraces = false) {n : Nat}
    (h : ∀ a ∈ Bundle.npeArmAtoms n, a.before args s = true)
    (hlocs : ∀ x ∈ locs, ∀ cell, s.heap[x.base]? = some cell → cell.vm.isStatics = false)
    {g : JFrame} (hg : g.method = m₀) (hsize : g.locals.size = c.maxLocals)
    (hRframes : 7 < R.frames) (hRlocals : 2 * g.monitorRoom + (g.stack.map fun v => v.category).sum + 10240 ≤ R.locals)
    (hRcells : cells + 1 ≤ R.cells) (hRslots : slots + n ≤ R.slots) (hlocks : meth.locks = false) :
    ∃ (S : State) (q : Addr) (ce : Cell), (∀ target, Steps p.tables e below ((S.setTop g).pushFrame (.throwing q)) target → Steps p.tables e below ((W.setTop g).pushFrame (.throwNew "java/lang/NullPointerException" none none)) target) ∧
      Stand p l e R s m₀ args below meth c S locs (cells + 1) (slots + n) ∧ S.heap[q]? = some ce ∧ s.vm.findClass "java/lang/NullPointerException" = some ce.cls ∧ ce.vm = .none := by
  have howns : e.platform.frameOwnsMonitors = true := by rw [X.admits.platform]
  have hfin : e.platform.finalization = false := by rw [X.admits.platform]
  have hpl : e.platform.magicAccessors = ({} : Platform).magicAccessors := by rw [X.admits.platform]
  have hpl2 : e.platform.arrayCloneIsPublic = true := by rw [X.admits.platform]
  have a' : ∀ x, x ∈ Bundle.npeArmAtoms n → x.holds args s none s [] = true := fun x hx => h x hx
  obtain ⟨T, Z, L, LZ, Y⟩ := ThrowableC.of_atoms (args := args) howns hfin hpl (fun x hx => h x (by simp [Bundle.npeArmAtoms, hx]))
  obtain ⟨N, LN, hcN, hnNF, hordN, hffS⟩ := NpeC.of_atoms (args := args) hpl hpl2 L Y (fun x hx => h x (by simp [Bundle.npeArmAtoms, hx]))
  obtain ⟨P1, L1, hP1m, hP1s⟩ := PassC.of_atoms (args := args) (s := s) hpl (X := Bundle.nN) (Y := Bundle.rN) (by decide) (by decide) LibCode.NullPointerException.Init0.at_0 LibCode.NullPointerException.Init0.at_1 LibCode.NullPointerException.Init0.at_4 (fun x hx => h x (by simp [Bundle.npeArmAtoms, hx]))
  obtain ⟨PR, LR, hPRm, hPRs⟩ := PassC.of_atoms (args := args) (s := s) hpl (X := Bundle.rN) (Y := Bundle.eN) (by decide) (by decide) LibCode.RuntimeException.Init0.at_0 LibCode.RuntimeException.Init0.at_1 LibCode.RuntimeException.Init0.at_4 (fun x hx => h x (by simp [Bundle.npeArmAtoms, hx]))
  obtain ⟨PE, LEx, hPEm, hPEs⟩ := PassC.of_atoms (args := args) (s := s) hpl (X := Bundle.eN) (Y := Bundle.tN) (by decide) (by decide) LibCode.Exception.Init0.at_0 LibCode.Exception.Init0.at_1 LibCode.Exception.Init0.at_4 (fun x hx => h x (by simp [Bundle.npeArmAtoms, hx]))
  have hfound : s.vm.findClass Bundle.nN = some P1.m.cls := findClass_of_methodNamed hP1m
  have ecls : N.cN = P1.m.cls := Option.some.inj (hcN.symm.trans hfound)
  have hk : s.vm.classes[P1.m.cls]? = some N.kN := by rw [← ecls]; exact LN.cls
  have hinit := Cond.initialized_spec hfound hk (a' (.initialized Bundle.nN) (by simp [Bundle.npeArmAtoms]))
  have hctor : N.kN.findMethod "<init>" "()V" = some P1.m.idx := findMethod_of_methodNamed hP1m hk
  obtain ⟨c1, k1, hc1, hk1, -, -, -, hn⟩ := Cond.instantiable_spec (a' (.instantiable Bundle.nN n) (by simp [Bundle.npeArmAtoms]))
  cases Option.some.inj (hc1.symm.trans hfound)
  cases Option.some.inj (hk1.symm.trans hk)
  have hfsz : (freshCell P1.m.cls N.kN).slots.size = n := by simp [hn]
  have hlink1 : P1.sup = PR.m := Option.some.inj (hP1s.symm.trans hPRm)
  have hlinkR : PR.sup = PE.m := Option.some.inj (hPRs.symm.trans hPEm)
  have hlinkE : PE.sup = Z.m T.toThrowableT := Option.some.inj (hPEs.symm.trans Y.init0)
  have hLs : ∀ P, P ∈ [PR, PE] → P.Links0 e.platform s := fun P hP => by
    simp only [List.mem_cons, List.not_mem_nil, or_false] at hP
    rcases hP with rfl | rfl
    · exact LR
    · exact LEx
  have hsel0 : selectMethod e.platform s.vm P1.m.cls T.fill0 = .method T.fill0 := by
    obtain ⟨c2, r2, m2, q1, q2, q3, q4, -⟩ := Cond.selects_spec (a' (.selects Bundle.nN Bundle.tFill0 Bundle.tFill0) (by simp [Bundle.npeArmAtoms]))
    cases Option.some.inj (q1.symm.trans hfound)
    cases Option.some.inj (q2.symm.trans (State.methodFound?_of_named Y.fill0 (by decide)))
    cases Option.some.inj (q3.symm.trans Y.fill0)
    rw [Launch.admits_selectMethod X.admits]; exact q4
  have hselF : selectMethod e.platform s.vm P1.m.cls T.fill = .method N.fill := by
    obtain ⟨c2, r2, m2, q1, q2, q3, q4, -⟩ := Cond.selects_spec (a' (.selects Bundle.nN Bundle.tFill Bundle.nFill) (by simp [Bundle.npeArmAtoms]))
    cases Option.some.inj (q1.symm.trans hfound)
    cases Option.some.inj (q2.symm.trans (State.methodFound?_of_named Y.fill (by decide)))
    cases Option.some.inj (q3.symm.trans hnNF)
    rw [Launch.admits_selectMethod X.admits]; exact q4
  obtain ⟨cellS0, hcS0, hiss⟩ := Y.statics
  obtain ⟨u0, hu0⟩ := Cond.staticRefV Y.unassigned L.unassignedStatic L.statics hcS0 hiss (a' (.isRef (.static Bundle.tN "UNASSIGNED_STACK" Bundle.steD)) (by simp [Bundle.npeArmAtoms]))
  obtain ⟨sen, hsen⟩ := Cond.staticRefV Y.sentinel L.sentinelStatic L.statics hcS0 hiss (a' (.isRef (.static Bundle.tN "SUPPRESSED_SENTINEL" Bundle.listD)) (by simp [Bundle.npeArmAtoms]))
  obtain ⟨ci198, i198, fB, hk198, hg198, ha198, hsB, -, hnB, htB, hffB⟩ := Cond.ownField (t := .object "java/lang/Object") Y.found L.cls (by decide +kernel) (a' (.fieldLink Bundle.tN 198 Bundle.tN "backtrace" Bundle.objD) (by simp [Bundle.npeArmAtoms])) (a' (.lays Bundle.tN Bundle.tN "backtrace" Bundle.objD) (by simp [Bundle.npeArmAtoms])) e.platform hpl
  obtain ⟨cellS, hcS', heS, -, hkeep⟩ := X.same.2.2.2.2.2 T.aS cellS0 hcS0
  have hcellS : W.heap[T.aS]? = some cellS := hcS'
  have hout' : ∀ i, (⟨T.aS, i⟩ : Loc) ∉ locs := fun i hmem => by
    have := hlocs _ hmem cellS0 hcS0
    rw [hiss] at this; cases this
  have hknownS : cellS.vm ≠ .unknown := by
    rw [heS]; intro hu
    rw [show cellS0.vm = .unknown from hu] at hiss
    cases hiss
  have hvU : cellS.slots[T.fUnassigned.slot]? = some u0.v := by rw [hkeep _ (hout' _)]; exact hu0
  have hvSen : cellS.slots[T.fSentinel.slot]? = some sen.v := by rw [hkeep _ (hout' _)]; exact hsen
  obtain ⟨tyC, dC, hdC, hdnC⟩ := Cond.laysAt hfound hk Y.cause (a' (.lays Bundle.nN Bundle.tN "cause" "Ljava/lang/Throwable;") (by simp [Bundle.npeArmAtoms]))
  obtain ⟨tyS, dS, hdS, hdnS⟩ := Cond.laysAt hfound hk Y.stack (a' (.lays Bundle.nN Bundle.tN "stackTrace" Bundle.steD) (by simp [Bundle.npeArmAtoms]))
  obtain ⟨tyP, dP, hdP, hdnP⟩ := Cond.laysAt hfound hk Y.supp (a' (.lays Bundle.nN Bundle.tN "suppressedExceptions" Bundle.listD) (by simp [Bundle.npeArmAtoms]))
  obtain ⟨tyX, dX, hdX, hdnX⟩ := Cond.laysAt hfound hk hffS (a' (.lays Bundle.nN Bundle.nN "extendedMessageState" "I") (by simp [Bundle.npeArmAtoms, Bundle.npeAtoms]))
  obtain ⟨hnX, htX⟩ := State.fieldFound?_type hffS (t := .int) (by decide +kernel)
  have xC := Cond.laysApart hdC hdX hdnC hdnX (by rw [hnX, Y.causeName]; decide)
  have xS := Cond.laysApart hdS hdX hdnS hdnX (by rw [hnX, Y.stackName]; decide)
  have xP := Cond.laysApart hdP hdX hdnP hdnX (by rw [hnX, Y.suppName]; decide)
  have hv0 : (freshCell P1.m.cls N.kN).slots[N.fState.slot]? = some (.int 0) := by
    have := fresh_default (c := P1.m.cls) tyX
    rw [htX] at this; exact this
  obtain ⟨tyB, dB, hdB, hdnB⟩ := Cond.laysAt hfound hk hffB (a' (.lays Bundle.nN Bundle.tN "backtrace" Bundle.objD) (by simp [Bundle.npeArmAtoms]))
  have bC := Cond.laysApart hdB hdC hdnB hdnC (by rw [hnB, Y.causeName]; decide)
  have bS := Cond.laysApart hdB hdS hdnB hdnS (by rw [hnB, Y.stackName]; decide)
  have bP := Cond.laysApart hdB hdP hdnB hdnP (by rw [hnB, Y.suppName]; decide)
  have bX := Cond.laysApart hdB hdX hdnB hdnX (by rw [hnB, hnX]; decide)
  have hbk : ((npeCell N.toNpeT (preparedCellV T.toThrowableT (freshCell P1.m.cls N.kN) W.heap.size u0 sen) W.cur).withEntry W.cur).slots[fB.slot]? = some .null := by
    have := fresh_default (c := P1.m.cls) tyB
    rw [htB] at this
    simpa [npeCell, preparedCellV, Cell.setSlot, Cell.withEntry, Array.getElem?_setIfInBounds, bC, bS, bP, bX, bC.symm, bS.symm, bP.symm, bX.symm, defaultValue] using this
  have tkC := Takes.of_laid (v := .ref W.heap.size) hk hordN tyC (by rw [Y.causeType]; rfl)
  have tkS := Takes.of_laid (v := u0.v) hk hordN tyS (by rw [Y.stackType]; exact fits_refV_array _ u0)
  have tkP := Takes.of_laid (v := sen.v) hk hordN tyP (by rw [Y.suppType]; exact fits_refV_object _ sen)
  have tkX := Takes.of_laid (v := .int 1) hk hordN tyX (by rw [htX]; rfl)
  have hskip : SkipFacts T e.platform s (fun u => u) u0 ((npeCell N.toNpeT (preparedCellV T.toThrowableT (freshCell P1.m.cls N.kN) W.heap.size u0 sen) W.cur).withEntry W.cur) := ⟨{ ci198 := ci198, i198 := i198, fBack := fB }, ⟨hk198, hg198, ha198, hsB⟩, hbk, fun _ _ => rfl⟩
  obtain ⟨vm', X3, st, -⟩ := X.throwsNpeColdBareVAt hexec hg hsize T L Z LZ N LN P1 L1 [PR, PE] hLs hlink1 ⟨hlinkR, hlinkE, trivial⟩ hfound hk hinit hordN hctor hsel0 hselF hcellS hknownS hvU hvSen
    hv0 xC xS xP tkC tkS tkP tkX Y.objLocals hskip (fun _ _ hA hW _ hroom _ hrest => L.nativeOff p htr hA hW hroom hrest) (by simpa using hRframes) hRlocals (by simp) hRcells (by rw [hn]; exact hRslots)
  have hlt : W.heap.size < ((W.pushCell (freshCell P1.m.cls N.kN)).setVm vm').heap.size := by
    show W.heap.size < (W.pushCell (freshCell P1.m.cls N.kN)).heap.size
    rw [State.heap_size_pushCell]; omega
  rw [hfsz] at X3
  obtain ⟨g₁, hfrM⟩ := X3.frames_eq
  have hU : ((((W.pushCell (freshCell P1.m.cls N.kN)).setVm vm').setCell W.heap.size (npeBareV T.toThrowableT N.toNpeT (freshCell P1.m.cls N.kN) W.heap.size u0 sen)).setTop g).pushFrame (.throwing W.heap.size) = (((W.pushCell (freshCell P1.m.cls N.kN)).setVm vm').setCell W.heap.size (npeBareV T.toThrowableT N.toNpeT (freshCell P1.m.cls N.kN) W.heap.size u0 sen)).setFrames (.throwing W.heap.size :: .java g :: below) := by
    rw [State.pushFrame, State.frames_setTop _ hfrM, State.setTop_of_frames _ hfrM, State.setFrames_setFrames]
  refine ⟨_, W.heap.size, _, fun target ht => st.trans (by rw [← hU]; exact ht), X3.forget (fun y hy => ?_), heapAt_setCell_self _ hlt, hfound, rfl⟩
  simp only [List.mem_cons, List.not_mem_nil, or_false] at hy
  have hge : s.heap.size ≤ W.heap.size := X.same.2.1
  rcases hy with rfl | rfl | rfl | rfl | rfl <;> exact hge
/-- the words of a machine's NullPointerException, but the four that speak of the heap -/
def vx_atN (n : Nat) : List Cond := (Bundle.npeArmAtoms n).filter vx_no
/-- the words of a machine's throw with a message, but the four that speak of the heap -/
def vx_atM (X : String) (names : List String) : List Cond := (Bundle.messageArmAtoms X names).filter vx_no
section
variable {p : Program} {l : Launch} {e : Env} {R : Room} {s : State} {m : MethodId} {args : Array Value} {below : List Frame} {meth : Method} {c : Code} {H : Heap} {locs : List Loc} {cells slots : Nat}
/-- a frame seen from a rebased start, seen from the first start again -/
theorem vx_back9 {T S : State} {R' : Room} {k n : Nat} (X : Stand p l e R s m args below meth c T locs cells slots) (Y : Stand p l e R' ((T.setVm s.vm).setFrames (.invoking m args :: below)) m args below meth c T [] 0 0) (Z : Stand p l e R' ((T.setVm s.vm).setFrames (.invoking m args :: below)) m args below meth c S [] k n) :
    Stand p l e R s m args below meth c S locs (cells + k) (slots + n) := by
  have hW0 : s.WarmedH ((T.setVm s.vm).setFrames (.invoking m args :: below)).vm := State.WarmedH.refl s
  refine { admits := X.admits, cas := X.cas, clock := X.clock, frames := X.frames, room := X.room, hears := X.hears, method := X.method, code := X.code, here := Z.here, tail := Z.tail, warmed := State.WarmedH.trans hW0 Z.warmed, limits := Z.limits.trans (Y.limits.symm.trans X.limits), bytes := Z.bytes.trans (Y.bytes.symm.trans X.bytes), same := ?_ }
  obtain ⟨e1, e2⟩ := Z.same
  rw [State.setFrames_setFrames] at e1
  have h2 : (T.setVm s.vm).sameButNew (S.setVm s.vm) [] k n := ⟨e1, e2⟩
  have h3 := X.same.trans h2
  rw [List.append_nil] at h3
  exact h3
/-- from the machine's note that E is thrown here with this text -/
def vx_Note (p : Program) (l : Launch) (e : Env) (R : Room) (s : State) (m : MethodId) (args : Array Value) (below : List Frame) (meth : Method) (c : Code) (H : Heap) (locs : List Loc) (cells slots : Nat) (Q : State → Prop) (g : JFrame) (E text : String) : Prop :=
  ∀ T : State, T.heap = H → Stand p l e R s m args below meth c T locs cells slots → ∃ t, Steps p.tables e below ((T.setTop g).pushFrame (.throwNew E (some text) none)) t ∧ Q t
theorem vx_vm {pc : Nat} {ls : Array Slot} {rest : List Value} {Q : State → Prop} (hexec : p.tables.exec = Jvm.exec) (hl : l.stackTraces = false) {cls text : String} {names : List String} {nb : Nat} {A : Nat → Prop}
    (hcls : Bundle.fit cls = true) (hnames : ∀ n ∈ names, Bundle.fit n = true) (hsoe : (cls == "java/lang/StackOverflowError") = false) (hoom : (cls == "java/lang/OutOfMemoryError") = false)
    (hat : ∀ w ∈ vx_atM cls names, w.before args s = true) (hgood : ∀ w ∈ vx_atM cls names, vx_ot w = true)
    (hU : vx_Zq Bundle.tN "UNASSIGNED_STACK" Bundle.steD A s s.heap) (hN : vx_Zq Bundle.tN "SUPPRESSED_SENTINEL" Bundle.listD A s s.heap) (hS : va_S A s.heap H locs) (hsize : ls.size = c.maxLocals)
    (htext : (text == notModelled) = false) (hnb : (stringBytes (stringToUtf16 text)).size ≤ nb) (hnb1 : nb ≤ 1000)
    (hRframes : names.length + 4 < R.frames) (hRlocals : (rest.map fun v => v.category).sum + 10240 ≤ R.locals) (hshort : 13 * names.length + 55 ≤ 10240) (hRcells : cells + 3 ≤ R.cells) (hRslots : slots + (nb + 10) ≤ R.slots) (hlocks : meth.locks = false)
    (k : ∀ (H1 : Heap) (q9 : Addr) (ce : Cell), H.size ≤ H1.size → (∀ q : Nat, q < H.size → H1[q]? = H[q]?) → va_S A s.heap H1 locs → H1[q9]? = some ce → ce.vm = .none → s.vm.findClass cls = some ce.cls → vx_W p l e R s m args below meth c H1 locs (cells + 3) (slots + (nb + 10)) Q (F0 m pc ls rest) q9) :
    vx_Note p l e R s m args below meth c H locs cells slots Q (F0 m pc ls rest) cls text := by
  intro T hT X
  have htr : e.platform.stackTraces = false := (show e.platform.stackTraces = l.stackTraces by rw [X.admits.platform]).trans hl
  have Y := vx_rebase X (R' := { frames := R.frames, locals := R.locals, cells := 3, slots := nb + 10 }) (Nat.le_refl _) (Nat.le_refl _) hRcells hRslots
  have hhp : ((T.setVm s.vm).setFrames (.invoking m args :: below)).heap = H := hT
  have hW0 : s.WarmedH ((T.setVm s.vm).setFrames (.invoking m args :: below)).vm := State.WarmedH.refl s
  have hat' : ∀ w ∈ vx_atM cls names, w.before args ((T.setVm s.vm).setFrames (.invoking m args :: below)) = true := fun w hw => vx_ot_at hW0 rfl (hgood w hw) (hat w hw)
  have hU' : vx_Zq Bundle.tN "UNASSIGNED_STACK" Bundle.steD A ((T.setVm s.vm).setFrames (.invoking m args :: below)) ((T.setVm s.vm).setFrames (.invoking m args :: below)).heap := by rw [hhp]; exact vx_Zq.moved hW0.alike (hU.kept hS.2.1)
  have hN' : vx_Zq Bundle.tN "SUPPRESSED_SENTINEL" Bundle.listD A ((T.setVm s.vm).setFrames (.invoking m args :: below)) ((T.setVm s.vm).setFrames (.invoking m args :: below)).heap := by rw [hhp]; exact vx_Zq.moved hW0.alike (hN.kept hS.2.1)
  obtain ⟨S, q, ce, st, Z, hce, hcl', hv⟩ := vx_vmAt Y hexec htr (cls := cls) (names := names) (text := text) hcls hnames hsoe hoom (vx_own hat' (vx_isRefq hU'.1) (vx_isRefq hN'.1) hU'.2.word hN'.2.word) (fun x hx => nomatch hx) htext
    (by rw [Launch.admits_arrayLengthLimit X.admits]; omega) (by rw [Launch.admits_maxHeapBytes X.admits]; simp only [componentBytes]; omega)
    (g := F0 m pc ls rest) rfl hsize hRframes (by show 2 * 0 + (rest.map fun v => v.category).sum + 10240 ≤ R.locals; omega) hshort (by show 0 + 3 ≤ 3; omega) (by show 0 + (_ + 4 + 6) ≤ nb + 10; omega) hlocks
  obtain ⟨f1, f2⟩ := vx_frame Z.same
  have f1' : H.size ≤ S.heap.size := by rw [← hT]; exact f1
  have f2' : ∀ q : Nat, q < H.size → S.heap[q]? = H[q]? := fun q hq => by
    rw [← hT]
    exact f2 q (by rw [← hT] at hq; exact hq) (fun z hz => nomatch hz)
  have X5 := vx_back9 X Y Z
  have X6 : Stand p l e R s m args below meth c S locs (cells + 3) (slots + (nb + 10)) := { X5 with same := X5.same.mono (by omega) (by omega) }
  obtain ⟨t, a1, b1⟩ := k S.heap q ce f1' f2' ⟨Nat.le_trans hS.1 f1', fun q h1 h2 => (f2' q (Nat.lt_of_lt_of_le h1 hS.1)).trans (hS.2.1 q h1 h2), hS.2.2⟩ hce hv hcl' S rfl X6
  exact ⟨t, st t a1, b1⟩
/-- from the machine's note that NullPointerException is thrown here -/
def vx_NoteN (p : Program) (l : Launch) (e : Env) (R : Room) (s : State) (m : MethodId) (args : Array Value) (below : List Frame) (meth : Method) (c : Code) (H : Heap) (locs : List Loc) (cells slots : Nat) (Q : State → Prop) (g : JFrame) : Prop :=
  ∀ T : State, T.heap = H → Stand p l e R s m args below meth c T locs cells slots → ∃ t, Steps p.tables e below ((T.setTop g).pushFrame (.throwNew "java/lang/NullPointerException" none none)) t ∧ Q t
theorem vx_npe {pc : Nat} {ls : Array Slot} {rest : List Value} {Q : State → Prop} (hexec : p.tables.exec = Jvm.exec) (hl : l.stackTraces = false) {nb : Nat} {A : Nat → Prop}
    (hat : ∀ w ∈ vx_atN nb, w.before args s = true) (hgood : ∀ w ∈ vx_atN nb, vx_ot w = true)
    (hU : vx_Zq Bundle.tN "UNASSIGNED_STACK" Bundle.steD A s s.heap) (hN : vx_Zq Bundle.tN "SUPPRESSED_SENTINEL" Bundle.listD A s s.heap) (hS : va_S A s.heap H locs) (hsize : ls.size = c.maxLocals)
    (hRframes : 7 < R.frames) (hRlocals : (rest.map fun v => v.category).sum + 10240 ≤ R.locals) (hRcells : cells + 1 ≤ R.cells) (hRslots : slots + nb ≤ R.slots) (hlocks : meth.locks = false)
    (k : ∀ (H1 : Heap) (q9 : Addr) (ce : Cell), H.size ≤ H1.size → (∀ q : Nat, q < H.size → H1[q]? = H[q]?) → va_S A s.heap H1 locs → H1[q9]? = some ce → ce.vm = .none → s.vm.findClass "java/lang/NullPointerException" = some ce.cls → vx_W p l e R s m args below meth c H1 locs (cells + 1) (slots + nb) Q (F0 m pc ls rest) q9) :
    vx_NoteN p l e R s m args below meth c H locs cells slots Q (F0 m pc ls rest) := by
  intro T hT X
  have htr : e.platform.stackTraces = false := (show e.platform.stackTraces = l.stackTraces by rw [X.admits.platform]).trans hl
  have Y := vx_rebase X (R' := { frames := R.frames, locals := R.locals, cells := 1, slots := nb }) (Nat.le_refl _) (Nat.le_refl _) hRcells hRslots
  have hhp : ((T.setVm s.vm).setFrames (.invoking m args :: below)).heap = H := hT
  have hW0 : s.WarmedH ((T.setVm s.vm).setFrames (.invoking m args :: below)).vm := State.WarmedH.refl s
  have hat' : ∀ w ∈ vx_atN nb, w.before args ((T.setVm s.vm).setFrames (.invoking m args :: below)) = true := fun w hw => vx_ot_at hW0 rfl (hgood w hw) (hat w hw)
  have hU' : vx_Zq Bundle.tN "UNASSIGNED_STACK" Bundle.steD A ((T.setVm s.vm).setFrames (.invoking m args :: below)) ((T.setVm s.vm).setFrames (.invoking m args :: below)).heap := by rw [hhp]; exact vx_Zq.moved hW0.alike (hU.kept hS.2.1)
  have hN' : vx_Zq Bundle.tN "SUPPRESSED_SENTINEL" Bundle.listD A ((T.setVm s.vm).setFrames (.invoking m args :: below)) ((T.setVm s.vm).setFrames (.invoking m args :: below)).heap := by rw [hhp]; exact vx_Zq.moved hW0.alike (hN.kept hS.2.1)
  obtain ⟨S, q, ce, st, Z, hce, hcl', hv⟩ := vx_npeAt Y hexec htr (n := nb) (vx_own hat' (vx_isRefq hU'.1) (vx_isRefq hN'.1) hU'.2.word hN'.2.word) (fun x hx => nomatch hx)
    (g := F0 m pc ls rest) rfl hsize hRframes (by show 2 * 0 + (rest.map fun v => v.category).sum + 10240 ≤ R.locals; omega) (by show 0 + 1 ≤ 1; omega) (by show 0 + nb ≤ nb; omega) hlocks
  obtain ⟨f1, f2⟩ := vx_frame Z.same
  have f1' : H.size ≤ S.heap.size := by rw [← hT]; exact f1
  have f2' : ∀ q : Nat, q < H.size → S.heap[q]? = H[q]? := fun q hq => by
    rw [← hT]
    exact f2 q (by rw [← hT] at hq; exact hq) (fun z hz => nomatch hz)
  have X5 := vx_back9 X Y Z
  have X6 : Stand p l e R s m args below meth c S locs (cells + 1) (slots + nb) := { X5 with same := X5.same.mono (by omega) (by omega) }
  obtain ⟨t, a1, b1⟩ := k S.heap q ce f1' f2' ⟨Nat.le_trans hS.1 f1', fun q h1 h2 => (f2' q (Nat.lt_of_lt_of_le h1 hS.1)).trans (hS.2.1 q h1 h2), hS.2.2⟩ hce hv hcl' S rfl X6
  exact ⟨t, st t a1, b1⟩
variable {Q : State → Prop} {cc : ByteArray} {pc : Nat} {ls : Array Slot} {rest : List Value}
theorem vx_idivZ (hexec : p.tables.exec = Jvm.exec) (hb : c.code = cc) {a b : Int32} (h0 : b = 0) (d : decode cc pc = .ok (.idiv, 1)) (k : vx_Note p l e R s m args below meth c H locs cells slots Q (F0 m pc ls rest) "java/lang/ArithmeticException" "/ by zero") :
    W p l e R s m args below meth c H locs cells slots Q (F0 m pc ls (.int b :: .int a :: rest)) := by
  intro T hT X
  obtain ⟨t, st, q⟩ := k T hT X
  exact ⟨t, X.idivZero hexec (g := F0 m pc ls (.int b :: .int a :: rest)) rfl (a := a) (rest := rest) (by rw [h0]) (by rw [hb]; exact d) t st, q⟩
theorem vx_iremZ (hexec : p.tables.exec = Jvm.exec) (hb : c.code = cc) {a b : Int32} (h0 : b = 0) (d : decode cc pc = .ok (.irem, 1)) (k : vx_Note p l e R s m args below meth c H locs cells slots Q (F0 m pc ls rest) "java/lang/ArithmeticException" "/ by zero") :
    W p l e R s m args below meth c H locs cells slots Q (F0 m pc ls (.int b :: .int a :: rest)) := by
  intro T hT X
  obtain ⟨t, st, q⟩ := k T hT X
  exact ⟨t, X.iremZero hexec (g := F0 m pc ls (.int b :: .int a :: rest)) rfl (a := a) (rest := rest) (by rw [h0]) (by rw [hb]; exact d) t st, q⟩
theorem vx_ldivZ (hexec : p.tables.exec = Jvm.exec) (hb : c.code = cc) {a b : Int64} (h0 : b = 0) (d : decode cc pc = .ok (.ldiv, 1)) (k : vx_Note p l e R s m args below meth c H locs cells slots Q (F0 m pc ls rest) "java/lang/ArithmeticException" "/ by zero") :
    W p l e R s m args below meth c H locs cells slots Q (F0 m pc ls (.long b :: .long a :: rest)) := by
  intro T hT X
  obtain ⟨t, st, q⟩ := k T hT X
  exact ⟨t, X.ldivZero hexec (g := F0 m pc ls (.long b :: .long a :: rest)) rfl (a := a) (rest := rest) (by rw [h0]) (by rw [hb]; exact d) t st, q⟩
theorem vx_lremZ (hexec : p.tables.exec = Jvm.exec) (hb : c.code = cc) {a b : Int64} (h0 : b = 0) (d : decode cc pc = .ok (.lrem, 1)) (k : vx_Note p l e R s m args below meth c H locs cells slots Q (F0 m pc ls rest) "java/lang/ArithmeticException" "/ by zero") :
    W p l e R s m args below meth c H locs cells slots Q (F0 m pc ls (.long b :: .long a :: rest)) := by
  intro T hT X
  obtain ⟨t, st, q⟩ := k T hT X
  exact ⟨t, X.lremZero hexec (g := F0 m pc ls (.long b :: .long a :: rest)) rfl (a := a) (rest := rest) (by rw [h0]) (by rw [hb]; exact d) t st, q⟩
theorem vx_ialdZ {D : va_G} {cl : List vw_C} {ws : va_W} {tys : List (ClassId × FieldType)} {a : Nat} (hexec : p.tables.exec = Jvm.exec) (hb : c.code = cc) (hK : va_K D cl tys s) (hP : va_P D cl ws H) (q0 t0 : Nat) {cA : ClassId} {n : Nat} {f : Nat → Int32} (ha : ws[q0]? = some (a, .inl (cA, n, .inl f))) (ht : tys[t0]? = some (cA, .int)) {i : Int32} (hout : ¬ vp_in i n) (hdg : decode cc pc = .ok (.iaload, 1))
    (k : ∀ tx : String, tx = (toString "Index " ++ toString i ++ toString " out of bounds for length " ++ toString n : String) → vx_Note p l e R s m args below meth c H locs cells slots Q (F0 m pc ls rest) "java/lang/ArrayIndexOutOfBoundsException" tx) : W p l e R s m args below meth c H locs cells slots Q (F0 m pc ls (.int i :: .ref a :: rest)) := by
  intro T hT X
  obtain ⟨t, st, q⟩ := k _ rfl T hT X
  refine ⟨t, ?_, q⟩
  have h1 := X.ialoadOut hexec (by rw [hT]; exact hP q0 _ ha) ((hK.2 t0 _ ht).1 n (fun j => .int (f j))) (j := i) (by show (i < 0 ∨ (arrV _ _ _).slots.size ≤ _); rw [arrV_size]; exact Classical.byContradiction hout) (g := F0 m pc ls (.int i :: .ref a :: rest)) rfl (rest := rest) rfl (by rw [hb]; exact hdg) t
  simp only [arrV_size] at h1
  exact h1 st
theorem vx_iastZ {D : va_G} {cl : List vw_C} {ws : va_W} {tys : List (ClassId × FieldType)} {a : Nat} (hexec : p.tables.exec = Jvm.exec) (hb : c.code = cc) (hK : va_K D cl tys s) (hP : va_P D cl ws H) (q0 t0 : Nat) {cA : ClassId} {n : Nat} {f : Nat → Int32} (ha : ws[q0]? = some (a, .inl (cA, n, .inl f))) (ht : tys[t0]? = some (cA, .int)) {i : Int32} {x : Int32} (hout : ¬ vp_in i n) (hdg : decode cc pc = .ok (.iastore, 1))
    (k : ∀ tx : String, tx = (toString "Index " ++ toString i ++ toString " out of bounds for length " ++ toString n : String) → vx_Note p l e R s m args below meth c H locs cells slots Q (F0 m pc ls rest) "java/lang/ArrayIndexOutOfBoundsException" tx) : W p l e R s m args below meth c H locs cells slots Q (F0 m pc ls (.int x :: .int i :: .ref a :: rest)) := by
  intro T hT X
  obtain ⟨t, st, q⟩ := k _ rfl T hT X
  refine ⟨t, ?_, q⟩
  have h1 := X.iastoreOut hexec (by rw [hT]; exact hP q0 _ ha) ((hK.2 t0 _ ht).1 n (fun j => .int (f j))) (j := i) (by show (i < 0 ∨ (arrV _ _ _).slots.size ≤ _); rw [arrV_size]; exact Classical.byContradiction hout) (g := F0 m pc ls (.int x :: .int i :: .ref a :: rest)) rfl (rest := rest) rfl (by rw [hb]; exact hdg) t
  simp only [arrV_size] at h1
  exact h1 st
theorem vx_baldZ {D : va_G} {cl : List vw_C} {ws : va_W} {tys : List (ClassId × FieldType)} {a : Nat} (hexec : p.tables.exec = Jvm.exec) (hb : c.code = cc) (hK : va_K D cl tys s) (hP : va_P D cl ws H) (q0 t0 : Nat) {cA : ClassId} {n : Nat} {f : Nat → Int32} (ha : ws[q0]? = some (a, .inl (cA, n, .inl f))) (ht : tys[t0]? = some (cA, .byte)) {i : Int32} (hout : ¬ vp_in i n) (hdg : decode cc pc = .ok (.baload, 1))
    (k : ∀ tx : String, tx = (toString "Index " ++ toString i ++ toString " out of bounds for length " ++ toString n : String) → vx_Note p l e R s m args below meth c H locs cells slots Q (F0 m pc ls rest) "java/lang/ArrayIndexOutOfBoundsException" tx) : W p l e R s m args below meth c H locs cells slots Q (F0 m pc ls (.int i :: .ref a :: rest)) := by
  intro T hT X
  obtain ⟨t, st, q⟩ := k _ rfl T hT X
  refine ⟨t, ?_, q⟩
  have h1 := X.baloadOut hexec (by rw [hT]; exact hP q0 _ ha) ((hK.2 t0 _ ht).1 n (fun j => .int (f j))) (j := i) (by show (i < 0 ∨ (arrV _ _ _).slots.size ≤ _); rw [arrV_size]; exact Classical.byContradiction hout) (g := F0 m pc ls (.int i :: .ref a :: rest)) rfl (rest := rest) rfl (by rw [hb]; exact hdg) t
  simp only [arrV_size] at h1
  exact h1 st
theorem vx_bastZ {D : va_G} {cl : List vw_C} {ws : va_W} {tys : List (ClassId × FieldType)} {a : Nat} (hexec : p.tables.exec = Jvm.exec) (hb : c.code = cc) (hK : va_K D cl tys s) (hP : va_P D cl ws H) (q0 t0 : Nat) {cA : ClassId} {n : Nat} {f : Nat → Int32} (ha : ws[q0]? = some (a, .inl (cA, n, .inl f))) (ht : tys[t0]? = some (cA, .byte)) {i : Int32} {x : Int32} (hout : ¬ vp_in i n) (hdg : decode cc pc = .ok (.bastore, 1))
    (k : ∀ tx : String, tx = (toString "Index " ++ toString i ++ toString " out of bounds for length " ++ toString n : String) → vx_Note p l e R s m args below meth c H locs cells slots Q (F0 m pc ls rest) "java/lang/ArrayIndexOutOfBoundsException" tx) : W p l e R s m args below meth c H locs cells slots Q (F0 m pc ls (.int x :: .int i :: .ref a :: rest)) := by
  intro T hT X
  obtain ⟨t, st, q⟩ := k _ rfl T hT X
  refine ⟨t, ?_, q⟩
  have h1 := X.bastoreOut hexec (by rw [hT]; exact hP q0 _ ha) ((hK.2 t0 _ ht).1 n (fun j => .int (f j))) (j := i) (by show (i < 0 ∨ (arrV _ _ _).slots.size ≤ _); rw [arrV_size]; exact Classical.byContradiction hout) (g := F0 m pc ls (.int x :: .int i :: .ref a :: rest)) rfl (rest := rest) rfl (by rw [hb]; exact hdg) t
  simp only [arrV_size] at h1
  exact h1 st
theorem vx_zaldZ {D : va_G} {cl : List vw_C} {ws : va_W} {tys : List (ClassId × FieldType)} {a : Nat} (hexec : p.tables.exec = Jvm.exec) (hb : c.code = cc) (hK : va_K D cl tys s) (hP : va_P D cl ws H) (q0 t0 : Nat) {cA : ClassId} {n : Nat} {f : Nat → Int32} (ha : ws[q0]? = some (a, .inl (cA, n, .inl f))) (ht : tys[t0]? = some (cA, .boolean)) {i : Int32} (hout : ¬ vp_in i n) (hdg : decode cc pc = .ok (.baload, 1))
    (k : ∀ tx : String, tx = (toString "Index " ++ toString i ++ toString " out of bounds for length " ++ toString n : String) → vx_Note p l e R s m args below meth c H locs cells slots Q (F0 m pc ls rest) "java/lang/ArrayIndexOutOfBoundsException" tx) : W p l e R s m args below meth c H locs cells slots Q (F0 m pc ls (.int i :: .ref a :: rest)) := by
  intro T hT X
  obtain ⟨t, st, q⟩ := k _ rfl T hT X
  refine ⟨t, ?_, q⟩
  have h1 := X.baloadOut hexec (by rw [hT]; exact hP q0 _ ha) ((hK.2 t0 _ ht).1 n (fun j => .int (f j))) (j := i) (by show (i < 0 ∨ (arrV _ _ _).slots.size ≤ _); rw [arrV_size]; exact Classical.byContradiction hout) (g := F0 m pc ls (.int i :: .ref a :: rest)) rfl (rest := rest) rfl (by rw [hb]; exact hdg) t
  simp only [arrV_size] at h1
  exact h1 st
theorem vx_zastZ {D : va_G} {cl : List vw_C} {ws : va_W} {tys : List (ClassId × FieldType)} {a : Nat} (hexec : p.tables.exec = Jvm.exec) (hb : c.code = cc) (hK : va_K D cl tys s) (hP : va_P D cl ws H) (q0 t0 : Nat) {cA : ClassId} {n : Nat} {f : Nat → Int32} (ha : ws[q0]? = some (a, .inl (cA, n, .inl f))) (ht : tys[t0]? = some (cA, .boolean)) {i : Int32} {x : Int32} (hout : ¬ vp_in i n) (hdg : decode cc pc = .ok (.bastore, 1))
    (k : ∀ tx : String, tx = (toString "Index " ++ toString i ++ toString " out of bounds for length " ++ toString n : String) → vx_Note p l e R s m args below meth c H locs cells slots Q (F0 m pc ls rest) "java/lang/ArrayIndexOutOfBoundsException" tx) : W p l e R s m args below meth c H locs cells slots Q (F0 m pc ls (.int x :: .int i :: .ref a :: rest)) := by
  intro T hT X
  obtain ⟨t, st, q⟩ := k _ rfl T hT X
  refine ⟨t, ?_, q⟩
  have h1 := X.bastoreOut hexec (by rw [hT]; exact hP q0 _ ha) ((hK.2 t0 _ ht).1 n (fun j => .int (f j))) (j := i) (by show (i < 0 ∨ (arrV _ _ _).slots.size ≤ _); rw [arrV_size]; exact Classical.byContradiction hout) (g := F0 m pc ls (.int x :: .int i :: .ref a :: rest)) rfl (rest := rest) rfl (by rw [hb]; exact hdg) t
  simp only [arrV_size] at h1
  exact h1 st
theorem vx_caldZ {D : va_G} {cl : List vw_C} {ws : va_W} {tys : List (ClassId × FieldType)} {a : Nat} (hexec : p.tables.exec = Jvm.exec) (hb : c.code = cc) (hK : va_K D cl tys s) (hP : va_P D cl ws H) (q0 t0 : Nat) {cA : ClassId} {n : Nat} {f : Nat → Int32} (ha : ws[q0]? = some (a, .inl (cA, n, .inl f))) (ht : tys[t0]? = some (cA, .char)) {i : Int32} (hout : ¬ vp_in i n) (hdg : decode cc pc = .ok (.caload, 1))
    (k : ∀ tx : String, tx = (toString "Index " ++ toString i ++ toString " out of bounds for length " ++ toString n : String) → vx_Note p l e R s m args below meth c H locs cells slots Q (F0 m pc ls rest) "java/lang/ArrayIndexOutOfBoundsException" tx) : W p l e R s m args below meth c H locs cells slots Q (F0 m pc ls (.int i :: .ref a :: rest)) := by
  intro T hT X
  obtain ⟨t, st, q⟩ := k _ rfl T hT X
  refine ⟨t, ?_, q⟩
  have h1 := X.caloadOut hexec (by rw [hT]; exact hP q0 _ ha) ((hK.2 t0 _ ht).1 n (fun j => .int (f j))) (j := i) (by show (i < 0 ∨ (arrV _ _ _).slots.size ≤ _); rw [arrV_size]; exact Classical.byContradiction hout) (g := F0 m pc ls (.int i :: .ref a :: rest)) rfl (rest := rest) rfl (by rw [hb]; exact hdg) t
  simp only [arrV_size] at h1
  exact h1 st
theorem vx_castZ {D : va_G} {cl : List vw_C} {ws : va_W} {tys : List (ClassId × FieldType)} {a : Nat} (hexec : p.tables.exec = Jvm.exec) (hb : c.code = cc) (hK : va_K D cl tys s) (hP : va_P D cl ws H) (q0 t0 : Nat) {cA : ClassId} {n : Nat} {f : Nat → Int32} (ha : ws[q0]? = some (a, .inl (cA, n, .inl f))) (ht : tys[t0]? = some (cA, .char)) {i : Int32} {x : Int32} (hout : ¬ vp_in i n) (hdg : decode cc pc = .ok (.castore, 1))
    (k : ∀ tx : String, tx = (toString "Index " ++ toString i ++ toString " out of bounds for length " ++ toString n : String) → vx_Note p l e R s m args below meth c H locs cells slots Q (F0 m pc ls rest) "java/lang/ArrayIndexOutOfBoundsException" tx) : W p l e R s m args below meth c H locs cells slots Q (F0 m pc ls (.int x :: .int i :: .ref a :: rest)) := by
  intro T hT X
  obtain ⟨t, st, q⟩ := k _ rfl T hT X
  refine ⟨t, ?_, q⟩
  have h1 := X.castoreOut hexec (by rw [hT]; exact hP q0 _ ha) ((hK.2 t0 _ ht).1 n (fun j => .int (f j))) (j := i) (by show (i < 0 ∨ (arrV _ _ _).slots.size ≤ _); rw [arrV_size]; exact Classical.byContradiction hout) (g := F0 m pc ls (.int x :: .int i :: .ref a :: rest)) rfl (rest := rest) rfl (by rw [hb]; exact hdg) t
  simp only [arrV_size] at h1
  exact h1 st
theorem vx_saldZ {D : va_G} {cl : List vw_C} {ws : va_W} {tys : List (ClassId × FieldType)} {a : Nat} (hexec : p.tables.exec = Jvm.exec) (hb : c.code = cc) (hK : va_K D cl tys s) (hP : va_P D cl ws H) (q0 t0 : Nat) {cA : ClassId} {n : Nat} {f : Nat → Int32} (ha : ws[q0]? = some (a, .inl (cA, n, .inl f))) (ht : tys[t0]? = some (cA, .short)) {i : Int32} (hout : ¬ vp_in i n) (hdg : decode cc pc = .ok (.saload, 1))
    (k : ∀ tx : String, tx = (toString "Index " ++ toString i ++ toString " out of bounds for length " ++ toString n : String) → vx_Note p l e R s m args below meth c H locs cells slots Q (F0 m pc ls rest) "java/lang/ArrayIndexOutOfBoundsException" tx) : W p l e R s m args below meth c H locs cells slots Q (F0 m pc ls (.int i :: .ref a :: rest)) := by
  intro T hT X
  obtain ⟨t, st, q⟩ := k _ rfl T hT X
  refine ⟨t, ?_, q⟩
  have h1 := X.saloadOut hexec (by rw [hT]; exact hP q0 _ ha) ((hK.2 t0 _ ht).1 n (fun j => .int (f j))) (j := i) (by show (i < 0 ∨ (arrV _ _ _).slots.size ≤ _); rw [arrV_size]; exact Classical.byContradiction hout) (g := F0 m pc ls (.int i :: .ref a :: rest)) rfl (rest := rest) rfl (by rw [hb]; exact hdg) t
  simp only [arrV_size] at h1
  exact h1 st
theorem vx_sastZ {D : va_G} {cl : List vw_C} {ws : va_W} {tys : List (ClassId × FieldType)} {a : Nat} (hexec : p.tables.exec = Jvm.exec) (hb : c.code = cc) (hK : va_K D cl tys s) (hP : va_P D cl ws H) (q0 t0 : Nat) {cA : ClassId} {n : Nat} {f : Nat → Int32} (ha : ws[q0]? = some (a, .inl (cA, n, .inl f))) (ht : tys[t0]? = some (cA, .short)) {i : Int32} {x : Int32} (hout : ¬ vp_in i n) (hdg : decode cc pc = .ok (.sastore, 1))
    (k : ∀ tx : String, tx = (toString "Index " ++ toString i ++ toString " out of bounds for length " ++ toString n : String) → vx_Note p l e R s m args below meth c H locs cells slots Q (F0 m pc ls rest) "java/lang/ArrayIndexOutOfBoundsException" tx) : W p l e R s m args below meth c H locs cells slots Q (F0 m pc ls (.int x :: .int i :: .ref a :: rest)) := by
  intro T hT X
  obtain ⟨t, st, q⟩ := k _ rfl T hT X
  refine ⟨t, ?_, q⟩
  have h1 := X.sastoreOut hexec (by rw [hT]; exact hP q0 _ ha) ((hK.2 t0 _ ht).1 n (fun j => .int (f j))) (j := i) (by show (i < 0 ∨ (arrV _ _ _).slots.size ≤ _); rw [arrV_size]; exact Classical.byContradiction hout) (g := F0 m pc ls (.int x :: .int i :: .ref a :: rest)) rfl (rest := rest) rfl (by rw [hb]; exact hdg) t
  simp only [arrV_size] at h1
  exact h1 st
theorem vx_laldZ {D : va_G} {cl : List vw_C} {ws : va_W} {tys : List (ClassId × FieldType)} {a : Nat} (hexec : p.tables.exec = Jvm.exec) (hb : c.code = cc) (hK : va_K D cl tys s) (hP : va_P D cl ws H) (q0 t0 : Nat) {cA : ClassId} {n : Nat} {f : Nat → Int64} (ha : ws[q0]? = some (a, .inl (cA, n, .inr (.inl f)))) (ht : tys[t0]? = some (cA, .long)) {i : Int32} (hout : ¬ vp_in i n) (hdg : decode cc pc = .ok (.laload, 1))
    (k : ∀ tx : String, tx = (toString "Index " ++ toString i ++ toString " out of bounds for length " ++ toString n : String) → vx_Note p l e R s m args below meth c H locs cells slots Q (F0 m pc ls rest) "java/lang/ArrayIndexOutOfBoundsException" tx) : W p l e R s m args below meth c H locs cells slots Q (F0 m pc ls (.int i :: .ref a :: rest)) := by
  intro T hT X
  obtain ⟨t, st, q⟩ := k _ rfl T hT X
  refine ⟨t, ?_, q⟩
  have h1 := X.laloadOut hexec (by rw [hT]; exact hP q0 _ ha) ((hK.2 t0 _ ht).1 n (fun j => .long (f j))) (j := i) (by show (i < 0 ∨ (arrV _ _ _).slots.size ≤ _); rw [arrV_size]; exact Classical.byContradiction hout) (g := F0 m pc ls (.int i :: .ref a :: rest)) rfl (rest := rest) rfl (by rw [hb]; exact hdg) t
  simp only [arrV_size] at h1
  exact h1 st
theorem vx_lastZ {D : va_G} {cl : List vw_C} {ws : va_W} {tys : List (ClassId × FieldType)} {a : Nat} (hexec : p.tables.exec = Jvm.exec) (hb : c.code = cc) (hK : va_K D cl tys s) (hP : va_P D cl ws H) (q0 t0 : Nat) {cA : ClassId} {n : Nat} {f : Nat → Int64} (ha : ws[q0]? = some (a, .inl (cA, n, .inr (.inl f)))) (ht : tys[t0]? = some (cA, .long)) {i : Int32} {x : Int64} (hout : ¬ vp_in i n) (hdg : decode cc pc = .ok (.lastore, 1))
    (k : ∀ tx : String, tx = (toString "Index " ++ toString i ++ toString " out of bounds for length " ++ toString n : String) → vx_Note p l e R s m args below meth c H locs cells slots Q (F0 m pc ls rest) "java/lang/ArrayIndexOutOfBoundsException" tx) : W p l e R s m args below meth c H locs cells slots Q (F0 m pc ls (.long x :: .int i :: .ref a :: rest)) := by
  intro T hT X
  obtain ⟨t, st, q⟩ := k _ rfl T hT X
  refine ⟨t, ?_, q⟩
  have h1 := X.lastoreOut hexec (by rw [hT]; exact hP q0 _ ha) ((hK.2 t0 _ ht).1 n (fun j => .long (f j))) (j := i) (by show (i < 0 ∨ (arrV _ _ _).slots.size ≤ _); rw [arrV_size]; exact Classical.byContradiction hout) (g := F0 m pc ls (.long x :: .int i :: .ref a :: rest)) rfl (rest := rest) rfl (by rw [hb]; exact hdg) t
  simp only [arrV_size] at h1
  exact h1 st
theorem vx_faldZ {D : va_G} {cl : List vw_C} {ws : va_W} {tys : List (ClassId × FieldType)} {a : Nat} (hexec : p.tables.exec = Jvm.exec) (hb : c.code = cc) (hK : va_K D cl tys s) (hP : va_P D cl ws H) (q0 t0 : Nat) {cA : ClassId} {n : Nat} {f : Nat → UInt32} (ha : ws[q0]? = some (a, .inl (cA, n, .inr (.inr (.inl f))))) (ht : tys[t0]? = some (cA, .float)) {i : Int32} (hout : ¬ vp_in i n) (hdg : decode cc pc = .ok (.faload, 1))
    (k : ∀ tx : String, tx = (toString "Index " ++ toString i ++ toString " out of bounds for length " ++ toString n : String) → vx_Note p l e R s m args below meth c H locs cells slots Q (F0 m pc ls rest) "java/lang/ArrayIndexOutOfBoundsException" tx) : W p l e R s m args below meth c H locs cells slots Q (F0 m pc ls (.int i :: .ref a :: rest)) := by
  intro T hT X
  obtain ⟨t, st, q⟩ := k _ rfl T hT X
  refine ⟨t, ?_, q⟩
  have h1 := X.faloadOut hexec (by rw [hT]; exact hP q0 _ ha) ((hK.2 t0 _ ht).1 n (fun j => .float (f j))) (j := i) (by show (i < 0 ∨ (arrV _ _ _).slots.size ≤ _); rw [arrV_size]; exact Classical.byContradiction hout) (g := F0 m pc ls (.int i :: .ref a :: rest)) rfl (rest := rest) rfl (by rw [hb]; exact hdg) t
  simp only [arrV_size] at h1
  exact h1 st
theorem vx_fastZ {D : va_G} {cl : List vw_C} {ws : va_W} {tys : List (ClassId × FieldType)} {a : Nat} (hexec : p.tables.exec = Jvm.exec) (hb : c.code = cc) (hK : va_K D cl tys s) (hP : va_P D cl ws H) (q0 t0 : Nat) {cA : ClassId} {n : Nat} {f : Nat → UInt32} (ha : ws[q0]? = some (a, .inl (cA, n, .inr (.inr (.inl f))))) (ht : tys[t0]? = some (cA, .float)) {i : Int32} {x : UInt32} (hout : ¬ vp_in i n) (hdg : decode cc pc = .ok (.fastore, 1))
    (k : ∀ tx : String, tx = (toString "Index " ++ toString i ++ toString " out of bounds for length " ++ toString n : String) → vx_Note p l e R s m args below meth c H locs cells slots Q (F0 m pc ls rest) "java/lang/ArrayIndexOutOfBoundsException" tx) : W p l e R s m args below meth c H locs cells slots Q (F0 m pc ls (.float x :: .int i :: .ref a :: rest)) := by
  intro T hT X
  obtain ⟨t, st, q⟩ := k _ rfl T hT X
  refine ⟨t, ?_, q⟩
  have h1 := X.fastoreOut hexec (by rw [hT]; exact hP q0 _ ha) ((hK.2 t0 _ ht).1 n (fun j => .float (f j))) (j := i) (by show (i < 0 ∨ (arrV _ _ _).slots.size ≤ _); rw [arrV_size]; exact Classical.byContradiction hout) (g := F0 m pc ls (.float x :: .int i :: .ref a :: rest)) rfl (rest := rest) rfl (by rw [hb]; exact hdg) t
  simp only [arrV_size] at h1
  exact h1 st
theorem vx_daldZ {D : va_G} {cl : List vw_C} {ws : va_W} {tys : List (ClassId × FieldType)} {a : Nat} (hexec : p.tables.exec = Jvm.exec) (hb : c.code = cc) (hK : va_K D cl tys s) (hP : va_P D cl ws H) (q0 t0 : Nat) {cA : ClassId} {n : Nat} {f : Nat → UInt64} (ha : ws[q0]? = some (a, .inl (cA, n, .inr (.inr (.inr (.inl f)))))) (ht : tys[t0]? = some (cA, .double)) {i : Int32} (hout : ¬ vp_in i n) (hdg : decode cc pc = .ok (.daload, 1))
    (k : ∀ tx : String, tx = (toString "Index " ++ toString i ++ toString " out of bounds for length " ++ toString n : String) → vx_Note p l e R s m args below meth c H locs cells slots Q (F0 m pc ls rest) "java/lang/ArrayIndexOutOfBoundsException" tx) : W p l e R s m args below meth c H locs cells slots Q (F0 m pc ls (.int i :: .ref a :: rest)) := by
  intro T hT X
  obtain ⟨t, st, q⟩ := k _ rfl T hT X
  refine ⟨t, ?_, q⟩
  have h1 := X.daloadOut hexec (by rw [hT]; exact hP q0 _ ha) ((hK.2 t0 _ ht).1 n (fun j => .double (f j))) (j := i) (by show (i < 0 ∨ (arrV _ _ _).slots.size ≤ _); rw [arrV_size]; exact Classical.byContradiction hout) (g := F0 m pc ls (.int i :: .ref a :: rest)) rfl (rest := rest) rfl (by rw [hb]; exact hdg) t
  simp only [arrV_size] at h1
  exact h1 st
theorem vx_dastZ {D : va_G} {cl : List vw_C} {ws : va_W} {tys : List (ClassId × FieldType)} {a : Nat} (hexec : p.tables.exec = Jvm.exec) (hb : c.code = cc) (hK : va_K D cl tys s) (hP : va_P D cl ws H) (q0 t0 : Nat) {cA : ClassId} {n : Nat} {f : Nat → UInt64} (ha : ws[q0]? = some (a, .inl (cA, n, .inr (.inr (.inr (.inl f)))))) (ht : tys[t0]? = some (cA, .double)) {i : Int32} {x : UInt64} (hout : ¬ vp_in i n) (hdg : decode cc pc = .ok (.dastore, 1))
    (k : ∀ tx : String, tx = (toString "Index " ++ toString i ++ toString " out of bounds for length " ++ toString n : String) → vx_Note p l e R s m args below meth c H locs cells slots Q (F0 m pc ls rest) "java/lang/ArrayIndexOutOfBoundsException" tx) : W p l e R s m args below meth c H locs cells slots Q (F0 m pc ls (.double x :: .int i :: .ref a :: rest)) := by
  intro T hT X
  obtain ⟨t, st, q⟩ := k _ rfl T hT X
  refine ⟨t, ?_, q⟩
  have h1 := X.dastoreOut hexec (by rw [hT]; exact hP q0 _ ha) ((hK.2 t0 _ ht).1 n (fun j => .double (f j))) (j := i) (by show (i < 0 ∨ (arrV _ _ _).slots.size ≤ _); rw [arrV_size]; exact Classical.byContradiction hout) (g := F0 m pc ls (.double x :: .int i :: .ref a :: rest)) rfl (rest := rest) rfl (by rw [hb]; exact hdg) t
  simp only [arrV_size] at h1
  exact h1 st
theorem vx_arraylengthN (hexec : p.tables.exec = Jvm.exec) (hb : c.code = cc) (hdg : decode cc pc = .ok (.arraylength, 1)) (k : vx_NoteN p l e R s m args below meth c H locs cells slots Q (F0 m pc ls rest)) : W p l e R s m args below meth c H locs cells slots Q (F0 m pc ls (.null :: rest)) := by
  intro T hT X
  obtain ⟨t, st, q⟩ := k T hT X
  exact ⟨t, X.arraylengthNull hexec (g := F0 m pc ls (.null :: rest)) rfl (rest := rest) rfl (by rw [hb]; exact hdg) t st, q⟩
theorem vx_ialoadN (hexec : p.tables.exec = Jvm.exec) (hb : c.code = cc) {i : Int32} (hdg : decode cc pc = .ok (.iaload, 1)) (k : vx_NoteN p l e R s m args below meth c H locs cells slots Q (F0 m pc ls rest)) : W p l e R s m args below meth c H locs cells slots Q (F0 m pc ls (.int i :: .null :: rest)) := by
  intro T hT X
  obtain ⟨t, st, q⟩ := k T hT X
  exact ⟨t, X.ialoadNull hexec (g := F0 m pc ls (.int i :: .null :: rest)) rfl (rest := rest) rfl (by rw [hb]; exact hdg) t st, q⟩
theorem vx_laloadN (hexec : p.tables.exec = Jvm.exec) (hb : c.code = cc) {i : Int32} (hdg : decode cc pc = .ok (.laload, 1)) (k : vx_NoteN p l e R s m args below meth c H locs cells slots Q (F0 m pc ls rest)) : W p l e R s m args below meth c H locs cells slots Q (F0 m pc ls (.int i :: .null :: rest)) := by
  intro T hT X
  obtain ⟨t, st, q⟩ := k T hT X
  exact ⟨t, X.laloadNull hexec (g := F0 m pc ls (.int i :: .null :: rest)) rfl (rest := rest) rfl (by rw [hb]; exact hdg) t st, q⟩
theorem vx_faloadN (hexec : p.tables.exec = Jvm.exec) (hb : c.code = cc) {i : Int32} (hdg : decode cc pc = .ok (.faload, 1)) (k : vx_NoteN p l e R s m args below meth c H locs cells slots Q (F0 m pc ls rest)) : W p l e R s m args below meth c H locs cells slots Q (F0 m pc ls (.int i :: .null :: rest)) := by
  intro T hT X
  obtain ⟨t, st, q⟩ := k T hT X
  exact ⟨t, X.faloadNull hexec (g := F0 m pc ls (.int i :: .null :: rest)) rfl (rest := rest) rfl (by rw [hb]; exact hdg) t st, q⟩
theorem vx_daloadN (hexec : p.tables.exec = Jvm.exec) (hb : c.code = cc) {i : Int32} (hdg : decode cc pc = .ok (.daload, 1)) (k : vx_NoteN p l e R s m args below meth c H locs cells slots Q (F0 m pc ls rest)) : W p l e R s m args below meth c H locs cells slots Q (F0 m pc ls (.int i :: .null :: rest)) := by
  intro T hT X
  obtain ⟨t, st, q⟩ := k T hT X
  exact ⟨t, X.daloadNull hexec (g := F0 m pc ls (.int i :: .null :: rest)) rfl (rest := rest) rfl (by rw [hb]; exact hdg) t st, q⟩
theorem vx_aaloadN (hexec : p.tables.exec = Jvm.exec) (hb : c.code = cc) {i : Int32} (hdg : decode cc pc = .ok (.aaload, 1)) (k : vx_NoteN p l e R s m args below meth c H locs cells slots Q (F0 m pc ls rest)) : W p l e R s m args below meth c H locs cells slots Q (F0 m pc ls (.int i :: .null :: rest)) := by
  intro T hT X
  obtain ⟨t, st, q⟩ := k T hT X
  exact ⟨t, X.aaloadNull hexec (g := F0 m pc ls (.int i :: .null :: rest)) rfl (rest := rest) rfl (by rw [hb]; exact hdg) t st, q⟩
theorem vx_baloadN (hexec : p.tables.exec = Jvm.exec) (hb : c.code = cc) {i : Int32} (hdg : decode cc pc = .ok (.baload, 1)) (k : vx_NoteN p l e R s m args below meth c H locs cells slots Q (F0 m pc ls rest)) : W p l e R s m args below meth c H locs cells slots Q (F0 m pc ls (.int i :: .null :: rest)) := by
  intro T hT X
  obtain ⟨t, st, q⟩ := k T hT X
  exact ⟨t, X.baloadNull hexec (g := F0 m pc ls (.int i :: .null :: rest)) rfl (rest := rest) rfl (by rw [hb]; exact hdg) t st, q⟩
theorem vx_caloadN (hexec : p.tables.exec = Jvm.exec) (hb : c.code = cc) {i : Int32} (hdg : decode cc pc = .ok (.caload, 1)) (k : vx_NoteN p l e R s m args below meth c H locs cells slots Q (F0 m pc ls rest)) : W p l e R s m args below meth c H locs cells slots Q (F0 m pc ls (.int i :: .null :: rest)) := by
  intro T hT X
  obtain ⟨t, st, q⟩ := k T hT X
  exact ⟨t, X.caloadNull hexec (g := F0 m pc ls (.int i :: .null :: rest)) rfl (rest := rest) rfl (by rw [hb]; exact hdg) t st, q⟩
theorem vx_saloadN (hexec : p.tables.exec = Jvm.exec) (hb : c.code = cc) {i : Int32} (hdg : decode cc pc = .ok (.saload, 1)) (k : vx_NoteN p l e R s m args below meth c H locs cells slots Q (F0 m pc ls rest)) : W p l e R s m args below meth c H locs cells slots Q (F0 m pc ls (.int i :: .null :: rest)) := by
  intro T hT X
  obtain ⟨t, st, q⟩ := k T hT X
  exact ⟨t, X.saloadNull hexec (g := F0 m pc ls (.int i :: .null :: rest)) rfl (rest := rest) rfl (by rw [hb]; exact hdg) t st, q⟩
theorem vx_iastoreN (hexec : p.tables.exec = Jvm.exec) (hb : c.code = cc) {x : Int32} {i : Int32} (hdg : decode cc pc = .ok (.iastore, 1)) (k : vx_NoteN p l e R s m args below meth c H locs cells slots Q (F0 m pc ls rest)) : W p l e R s m args below meth c H locs cells slots Q (F0 m pc ls (.int x :: .int i :: .null :: rest)) := by
  intro T hT X
  obtain ⟨t, st, q⟩ := k T hT X
  exact ⟨t, X.iastoreNull hexec (g := F0 m pc ls (.int x :: .int i :: .null :: rest)) rfl (rest := rest) rfl (by rw [hb]; exact hdg) t st, q⟩
theorem vx_lastoreN (hexec : p.tables.exec = Jvm.exec) (hb : c.code = cc) {x : Int64} {i : Int32} (hdg : decode cc pc = .ok (.lastore, 1)) (k : vx_NoteN p l e R s m args below meth c H locs cells slots Q (F0 m pc ls rest)) : W p l e R s m args below meth c H locs cells slots Q (F0 m pc ls (.long x :: .int i :: .null :: rest)) := by
  intro T hT X
  obtain ⟨t, st, q⟩ := k T hT X
  exact ⟨t, X.lastoreNull hexec (g := F0 m pc ls (.long x :: .int i :: .null :: rest)) rfl (rest := rest) rfl (by rw [hb]; exact hdg) t st, q⟩
theorem vx_fastoreN (hexec : p.tables.exec = Jvm.exec) (hb : c.code = cc) {x : UInt32} {i : Int32} (hdg : decode cc pc = .ok (.fastore, 1)) (k : vx_NoteN p l e R s m args below meth c H locs cells slots Q (F0 m pc ls rest)) : W p l e R s m args below meth c H locs cells slots Q (F0 m pc ls (.float x :: .int i :: .null :: rest)) := by
  intro T hT X
  obtain ⟨t, st, q⟩ := k T hT X
  exact ⟨t, X.fastoreNull hexec (g := F0 m pc ls (.float x :: .int i :: .null :: rest)) rfl (rest := rest) rfl (by rw [hb]; exact hdg) t st, q⟩
theorem vx_dastoreN (hexec : p.tables.exec = Jvm.exec) (hb : c.code = cc) {x : UInt64} {i : Int32} (hdg : decode cc pc = .ok (.dastore, 1)) (k : vx_NoteN p l e R s m args below meth c H locs cells slots Q (F0 m pc ls rest)) : W p l e R s m args below meth c H locs cells slots Q (F0 m pc ls (.double x :: .int i :: .null :: rest)) := by
  intro T hT X
  obtain ⟨t, st, q⟩ := k T hT X
  exact ⟨t, X.dastoreNull hexec (g := F0 m pc ls (.double x :: .int i :: .null :: rest)) rfl (rest := rest) rfl (by rw [hb]; exact hdg) t st, q⟩
theorem vx_bastoreN (hexec : p.tables.exec = Jvm.exec) (hb : c.code = cc) {x : Int32} {i : Int32} (hdg : decode cc pc = .ok (.bastore, 1)) (k : vx_NoteN p l e R s m args below meth c H locs cells slots Q (F0 m pc ls rest)) : W p l e R s m args below meth c H locs cells slots Q (F0 m pc ls (.int x :: .int i :: .null :: rest)) := by
  intro T hT X
  obtain ⟨t, st, q⟩ := k T hT X
  exact ⟨t, X.bastoreNull hexec (g := F0 m pc ls (.int x :: .int i :: .null :: rest)) rfl (rest := rest) rfl (by rw [hb]; exact hdg) t st, q⟩
theorem vx_castoreN (hexec : p.tables.exec = Jvm.exec) (hb : c.code = cc) {x : Int32} {i : Int32} (hdg : decode cc pc = .ok (.castore, 1)) (k : vx_NoteN p l e R s m args below meth c H locs cells slots Q (F0 m pc ls rest)) : W p l e R s m args below meth c H locs cells slots Q (F0 m pc ls (.int x :: .int i :: .null :: rest)) := by
  intro T hT X
  obtain ⟨t, st, q⟩ := k T hT X
  exact ⟨t, X.castoreNull hexec (g := F0 m pc ls (.int x :: .int i :: .null :: rest)) rfl (rest := rest) rfl (by rw [hb]; exact hdg) t st, q⟩
theorem vx_sastoreN (hexec : p.tables.exec = Jvm.exec) (hb : c.code = cc) {x : Int32} {i : Int32} (hdg : decode cc pc = .ok (.sastore, 1)) (k : vx_NoteN p l e R s m args below meth c H locs cells slots Q (F0 m pc ls rest)) : W p l e R s m args below meth c H locs cells slots Q (F0 m pc ls (.int x :: .int i :: .null :: rest)) := by
  intro T hT X
  obtain ⟨t, st, q⟩ := k T hT X
  exact ⟨t, X.sastoreNull hexec (g := F0 m pc ls (.int x :: .int i :: .null :: rest)) rfl (rest := rest) rfl (by rw [hb]; exact hdg) t st, q⟩
theorem vx_invokeN {own C : String} {index maxL : Nat} {y : MethodName} {bytes : ByteArray} {ret : Option FieldType} (hexec : p.tables.exec = Jvm.exec) (hb : c.code = cc) (hown : s.vm.findClass own = some m.cls) (hlink : (Cond.methodLink own index y).before args s = true) (hinst : (Cond.instanceMethod y).before args s = true) (hcode : (Cond.code y bytes maxL ret).before args s = true) (hsel : (Cond.selects C y y).before args s = true)
    (hx : y.cls ≠ "java/lang/invoke/MethodHandle" ∧ y.cls ≠ "java/lang/invoke/VarHandle") {As : List Value} (hlen : (parseMethodDescriptor y.desc).map (fun d => d.parameters.length) = some As.length) (hdg : decode cc pc = .ok (.invokevirtual index, 3))
    (k : vx_NoteN p l e R s m args below meth c H locs cells slots Q (F0 m pc ls rest)) {st0 : List Value} (hst : st0 = As.reverse ++ .null :: rest) : W p l e R s m args below meth c H locs cells slots Q (F0 m pc ls st0) := by
  intro T hT X
  obtain ⟨r0, r, hn, hrm, hstR, hsigR⟩ := va_Decl.of hinst hcode
  obtain ⟨c2, r2, m2, q1, q2, q3, q4, kP, hkP, hkPi⟩ := Cond.selects_spec hsel
  cases hn.symm.trans q3
  have hl9 : As.length = r.sig.parameters.length := by
    rw [hsigR] at hlen
    exact (Option.some.inj hlen).symm
  obtain ⟨vm', X1, st1⟩ := X.invokevirtualNull hexec hown hlink hn hrm hstR hkP hkPi hx (g := F0 m pc ls st0) rfl (argsL := As) (rest := rest) hl9 hst (by rw [hb]; exact hdg)
  obtain ⟨t, st, q⟩ := k (T.setVm vm') hT X1
  exact ⟨t, st1 t st, q⟩
theorem vx_newarrayZ {atype : ArrayType} (hexec : p.tables.exec = Jvm.exec) (hb : c.code = cc) {n : Int32} (h0 : n < 0) (hdg : decode cc pc = .ok (.newarray atype, 2)) (k : ∀ tx : String, tx = toString n → vx_Note p l e R s m args below meth c H locs cells slots Q (F0 m pc ls rest) "java/lang/NegativeArraySizeException" tx) : W p l e R s m args below meth c H locs cells slots Q (F0 m pc ls (.int n :: rest)) := by
  intro T hT X
  obtain ⟨t, st, q⟩ := k _ rfl T hT X
  exact ⟨t, X.newarrayNegative hexec (g := F0 m pc ls (.int n :: rest)) rfl h0 (rest := rest) rfl (by rw [hb]; exact hdg) t st, q⟩
end
end VXM
/-! ===== END ===== -/
/-! ===== BEGIN an exception as an object: made, kept, thrown later (no traces kept) ===== -/
section VXK
variable {p : Program} {l : Launch} {e : Env} {R : Room} {s : State} {m₀ : MethodId} {args : Array Value} {below : List Frame} {meth : Method} {c : Code} {W : State} {locs : List Loc} {cells slots : Nat}
set_option maxHeartbeats 1000000 in
theorem vx_ctorMadeS (X : Stand p l e R s m₀ args below meth c W locs cells slots) (hexec : p.tables.exec = Jvm.exec) (htr : e.platform.stackTraces = false) {own cls : String} {names : List String} {ic : Nat}
    (hown : s.vm.findClass own = some m₀.cls) (hcls : Bundle.fit cls = true) (hnames : ∀ n ∈ names, Bundle.fit n = true)
    (h : ∀ a ∈ Bundle.ownAtoms own ic cls names, a.before args s = true)
    (hlocs : ∀ x ∈ locs, ∀ cell, s.heap[x.base]? = some cell → cell.vm.isStatics = false)
    {a : Addr} {cX : ClassId} {kX : Class} (hfoundX : s.vm.findClass cls = some cX) (hkX : s.vm.classes[cX]? = some kX) (hcell : W.heap[a]? = some (freshCell cX kX)) (hnew : s.heap.size ≤ a)
    {msg : Value} (hmsg : msg.isRef = true)
    {g : JFrame} (hg : g.method = m₀) (hsize : g.locals.size = c.maxLocals) {rest : List Value} (hstack : g.stack = msg :: .ref a :: .ref a :: rest)
    (hd6 : decode c.code g.pc = .ok (.invokespecial ic, 3))
    (hRframes : names.length + 3 < R.frames) (hRlocals : 2 * g.monitorRoom + ((Value.ref a :: rest).map fun v => v.category).sum + (13 * (names.length + 1) + 42) ≤ R.locals) :
    ∃ (V : State) (ce : Cell) (L : List Loc), Stand p l e R s m₀ args below meth c (V.setCell a ce) (locs ++ L) cells slots ∧ (∀ y ∈ L, y.base = a) ∧ a < V.heap.size ∧ ce.cls = cX ∧ ce.vm = .none ∧
      ∀ target, Steps p.tables e below ((V.setCell a ce).setTop { g with stack := .ref a :: rest, pc := g.pc + 3 }) target → Steps p.tables e below (W.setTop g) target := by
  have howns : e.platform.frameOwnsMonitors = true := by rw [X.admits.platform]
  have hfin : e.platform.finalization = false := by rw [X.admits.platform]
  have hpl : e.platform.magicAccessors = ({} : Platform).magicAccessors := by rw [X.admits.platform]
  have a' : ∀ x, x ∈ Bundle.ownAtoms own ic cls names → x.holds args s none s [] = true := fun x hx => h x hx
  obtain ⟨T, Z0, L, -, Y⟩ := ThrowableC.of_atoms (args := args) howns hfin hpl (fun x hx => h x (by simp [Bundle.ownAtoms, hx]))
  obtain ⟨Z, M, LZ, LM, hnZ⟩ := Init0T.ofS_atoms (args := args) hpl L Y (fun x hx => h x (by simp [Bundle.ownAtoms, hx]))
  obtain ⟨P1, Ps, hlen, L1, hL, hP1m, hlink1, hlink⟩ := Bundle.chainS (args := args) hpl hnZ names cls hcls hnames (fun x hx => h x (by simp [Bundle.ownAtoms, hx]))
  have hfound : s.vm.findClass cls = some P1.m.cls := findClass_of_methodNamed hP1m
  cases Option.some.inj (hfoundX.symm.trans hfound)
  obtain ⟨c1, kX', hc1, hk, hord, -, -, hn6⟩ := Cond.instantiable_spec (a' (.instantiable cls 6) (by simp [Bundle.ownAtoms]))
  cases Option.some.inj (hc1.symm.trans hfound)
  cases Option.some.inj (hkX.symm.trans hk)
  have hsel0 : selectMethod e.platform s.vm P1.m.cls T.fill0 = .method T.fill0 := by
    obtain ⟨c2, r2, m2, q1, q2, q3, q4, -⟩ := Cond.selects_spec (a' (.selects cls Bundle.tFill0 Bundle.tFill0) (by simp [Bundle.ownAtoms]))
    cases Option.some.inj (q1.symm.trans hfound)
    cases Option.some.inj (q2.symm.trans (State.methodFound?_of_named Y.fill0 (by decide)))
    cases Option.some.inj (q3.symm.trans Y.fill0)
    rw [Launch.admits_selectMethod X.admits]; exact q4
  have hselF : selectMethod e.platform s.vm P1.m.cls T.fill = .method T.fill := by
    obtain ⟨c2, r2, m2, q1, q2, q3, q4, -⟩ := Cond.selects_spec (a' (.selects cls Bundle.tFill Bundle.tFill) (by simp [Bundle.ownAtoms]))
    cases Option.some.inj (q1.symm.trans hfound)
    cases Option.some.inj (q2.symm.trans (State.methodFound?_of_named Y.fill (by decide)))
    cases Option.some.inj (q3.symm.trans Y.fill)
    rw [Launch.admits_selectMethod X.admits]; exact q4
  obtain ⟨cellS0, hcS0, hiss⟩ := Y.statics
  obtain ⟨u0, hu0⟩ := Cond.staticRefV Y.unassigned L.unassignedStatic L.statics hcS0 hiss (a' (.isRef (.static Bundle.tN "UNASSIGNED_STACK" Bundle.steD)) (by simp [Bundle.ownAtoms]))
  obtain ⟨sen, hsen⟩ := Cond.staticRefV Y.sentinel L.sentinelStatic L.statics hcS0 hiss (a' (.isRef (.static Bundle.tN "SUPPRESSED_SENTINEL" Bundle.listD)) (by simp [Bundle.ownAtoms]))
  obtain ⟨ci198, i198, fB, hk198, hg198, ha198, hsB, -, hnB, htB, hffB⟩ := Cond.ownField (t := .object "java/lang/Object") Y.found L.cls (by decide +kernel) (a' (.fieldLink Bundle.tN 198 Bundle.tN "backtrace" "Ljava/lang/Object;") (by simp [Bundle.ownAtoms])) (a' (.lays Bundle.tN Bundle.tN "backtrace" "Ljava/lang/Object;") (by simp [Bundle.ownAtoms])) e.platform hpl
  obtain ⟨cellS, hcS', heS, -, hkeep⟩ := X.same.2.2.2.2.2 T.aS cellS0 hcS0
  have hcellS : W.heap[T.aS]? = some cellS := hcS'
  have hout' : ∀ i, (⟨T.aS, i⟩ : Loc) ∉ locs := fun i hmem => by
    have := hlocs _ hmem cellS0 hcS0
    rw [hiss] at this; cases this
  have hknownS : cellS.vm ≠ .unknown := by
    rw [heS]; intro hu
    rw [show cellS0.vm = .unknown from hu] at hiss
    cases hiss
  have hneS : T.aS ≠ a := Nat.ne_of_lt (Nat.lt_of_lt_of_le (Array.getElem?_eq_some_iff.mp hcS0).1 hnew)
  obtain ⟨iM, hffM⟩ := Y.msg
  obtain ⟨tyC, dC, hdC, hdnC⟩ := Cond.laysAt hfound hk Y.cause (a' (.lays cls Bundle.tN "cause" "Ljava/lang/Throwable;") (by simp [Bundle.ownAtoms]))
  obtain ⟨tyS, dS, hdS, hdnS⟩ := Cond.laysAt hfound hk Y.stack (a' (.lays cls Bundle.tN "stackTrace" Bundle.steD) (by simp [Bundle.ownAtoms]))
  obtain ⟨tyP, dP, hdP, hdnP⟩ := Cond.laysAt hfound hk Y.supp (a' (.lays cls Bundle.tN "suppressedExceptions" Bundle.listD) (by simp [Bundle.ownAtoms]))
  obtain ⟨tyM, dM, hdM, hdnM⟩ := Cond.laysAt hfound hk hffM (a' (.lays cls Bundle.tN "detailMessage" "Ljava/lang/String;") (by simp [Bundle.ownAtoms]))
  obtain ⟨tyB, dB, hdB, hdnB⟩ := Cond.laysAt hfound hk hffB (a' (.lays cls Bundle.tN "backtrace" "Ljava/lang/Object;") (by simp [Bundle.ownAtoms]))
  have bC := Cond.laysApart hdB hdC hdnB hdnC (by rw [hnB, Y.causeName]; decide)
  have bS := Cond.laysApart hdB hdS hdnB hdnS (by rw [hnB, Y.stackName]; decide)
  have bP := Cond.laysApart hdB hdP hdnB hdnP (by rw [hnB, Y.suppName]; decide)
  have hskip : SkipFacts T e.platform s (fun u => u) u0 ((preparedCellV T.toThrowableT (freshCell P1.m.cls kX) a u0 sen).withEntry W.cur) :=
    ⟨{ ci198 := ci198, i198 := i198, fBack := fB }, ⟨hk198, hg198, ha198, hsB⟩, by
      have := fresh_default (c := P1.m.cls) tyB
      rw [htB] at this
      simpa [preparedCellV, Cell.setSlot, Cell.withEntry, Array.getElem?_setIfInBounds, bC, bS, bP, bC.symm, bS.symm, bP.symm, defaultValue] using this, fun _ _ => rfl⟩
  obtain ⟨tm, methC, cdC, kC, vm₁, hnC, -, -, -, -, -, -, -, hW₁, st1⟩ := Steps.initColdS (tb := p.tables) (e := e) (below := below) (s := s) (U := W) X.here hexec X.warmed hpl hown (t := Bundle.initS cls) rfl rfl (Bundle.fit_spec hcls).2
    (a' (.methodLink own ic (Bundle.initS cls)) (by simp [Bundle.ownAtoms])) (h (.instanceMethod (Bundle.initS cls)) (by cases names <;> simp [Bundle.ownAtoms, Bundle.chainSAtoms, Bundle.passSAtoms])) (bytes := Bundle.six) (maxL := 2) (h (.code (Bundle.initS cls) Bundle.six 2 none) (by cases names <;> simp [Bundle.ownAtoms, Bundle.chainSAtoms, Bundle.passSAtoms]))
    (f := g) hg (a := a) (msg := msg) (rest := .ref a :: rest) hstack hd6
  cases Option.some.inj (hnC.symm.trans hP1m)
  have X₁ := X.noted hW₁
  obtain ⟨vm₂, X₂, st2⟩ := X₁.ctorMessageOffV hexec (g := { g with stack := .ref a :: rest }) hg hsize T L Z LZ M LM (P1 :: Ps)
    (fun P hP => by rcases List.mem_cons.mp hP with rfl | hP; exact L1; exact hL P hP) ⟨hlink1, hlink⟩ (u0 := u0) (sen := sen) (self := a) hmsg (cell := freshCell P1.m.cls kX) (cellS := cellS)
    hcell (fun _ => by simp) (by simp) rfl rfl hsel0 hselF hcellS hneS hknownS (by rw [hkeep _ (hout' _)]; exact hu0) (by rw [hkeep _ (hout' _)]; exact hsen)
    (Takes.of_laid hk hord tyC (by rw [Y.causeType]; rfl)) (Takes.of_laid hk hord tyS (by rw [Y.stackType]; exact fits_refV_array _ u0)) (Takes.of_laid hk hord tyP (by rw [Y.suppType]; exact fits_refV_object _ sen))
    (Takes.of_laid hk hord tyM (by rw [Y.msgType]; exact fits_refV_object _ ⟨msg, hmsg⟩)) Y.objLocals hskip htr [] hd6
    (by simp only [List.length_cons, hlen]; omega) (by simp only [List.length_cons, hlen]; exact hRlocals)
  have hlt : a < ((W.setVm vm₁).setVm vm₂).heap.size := (Array.getElem?_eq_some_iff.mp hcell).1
  refine ⟨(W.setVm vm₁).setVm vm₂, _, _, X₂, fun y hy => ?_, hlt, rfl, rfl, fun target hwalk => st1 _ (fun acts => ?_)⟩
  · simp only [List.mem_cons, List.not_mem_nil, or_false] at hy
    rcases hy with rfl | rfl | rfl | rfl | rfl <;> rfl
  · rw [doInvoke_state]
    exact st2 _ hwalk
set_option maxHeartbeats 1000000 in
theorem vx_ctorMade0 (X : Stand p l e R s m₀ args below meth c W locs cells slots) (hexec : p.tables.exec = Jvm.exec) (htr : e.platform.stackTraces = false) {own cls : String} {names : List String} {ic : Nat}
    (hown : s.vm.findClass own = some m₀.cls) (hcls : Bundle.fit cls = true) (hnames : ∀ n ∈ names, Bundle.fit n = true)
    (h : ∀ a ∈ Bundle.ownAtoms0 own ic cls names, a.before args s = true)
    (hlocs : ∀ x ∈ locs, ∀ cell, s.heap[x.base]? = some cell → cell.vm.isStatics = false)
    {a : Addr} {cX : ClassId} {kX : Class} (hfoundX : s.vm.findClass cls = some cX) (hkX : s.vm.classes[cX]? = some kX) (hcell : W.heap[a]? = some (freshCell cX kX)) (hnew : s.heap.size ≤ a)
    {g : JFrame} (hg : g.method = m₀) (hsize : g.locals.size = c.maxLocals) {rest : List Value} (hstack : g.stack = .ref a :: .ref a :: rest)
    (hd6 : decode c.code g.pc = .ok (.invokespecial ic, 3))
    (hRframes : names.length + 3 < R.frames) (hRlocals : 2 * g.monitorRoom + ((Value.ref a :: rest).map fun v => v.category).sum + (13 * (names.length + 1) + 41) ≤ R.locals) :
    ∃ (V : State) (ce : Cell) (L : List Loc), Stand p l e R s m₀ args below meth c (V.setCell a ce) (locs ++ L) cells slots ∧ (∀ y ∈ L, y.base = a) ∧ a < V.heap.size ∧ ce.cls = cX ∧ ce.vm = .none ∧
      ∀ target, Steps p.tables e below ((V.setCell a ce).setTop { g with stack := .ref a :: rest, pc := g.pc + 3 }) target → Steps p.tables e below (W.setTop g) target := by
  have howns : e.platform.frameOwnsMonitors = true := by rw [X.admits.platform]
  have hfin : e.platform.finalization = false := by rw [X.admits.platform]
  have hpl : e.platform.magicAccessors = ({} : Platform).magicAccessors := by rw [X.admits.platform]
  have a' : ∀ x, x ∈ Bundle.ownAtoms0 own ic cls names → x.holds args s none s [] = true := fun x hx => h x hx
  obtain ⟨T, Z, L, LZ, Y⟩ := ThrowableC.of_atoms (args := args) howns hfin hpl (fun x hx => h x (by simp [Bundle.ownAtoms0, hx]))
  obtain ⟨P1, Ps, hlen, L1, hL, hP1m, hlink1, hlink⟩ := Bundle.chain0 (args := args) hpl Y.init0 names cls hcls hnames (fun x hx => h x (by simp [Bundle.ownAtoms0, hx]))
  have hfound : s.vm.findClass cls = some P1.m.cls := findClass_of_methodNamed hP1m
  cases Option.some.inj (hfoundX.symm.trans hfound)
  obtain ⟨c1, kX', hc1, hk, hord, -, -, hn6⟩ := Cond.instantiable_spec (a' (.instantiable cls 6) (by simp [Bundle.ownAtoms0]))
  cases Option.some.inj (hc1.symm.trans hfound)
  cases Option.some.inj (hkX.symm.trans hk)
  have hsel0 : selectMethod e.platform s.vm P1.m.cls T.fill0 = .method T.fill0 := by
    obtain ⟨c2, r2, m2, q1, q2, q3, q4, -⟩ := Cond.selects_spec (a' (.selects cls Bundle.tFill0 Bundle.tFill0) (by simp [Bundle.ownAtoms0]))
    cases Option.some.inj (q1.symm.trans hfound)
    cases Option.some.inj (q2.symm.trans (State.methodFound?_of_named Y.fill0 (by decide)))
    cases Option.some.inj (q3.symm.trans Y.fill0)
    rw [Launch.admits_selectMethod X.admits]; exact q4
  have hselF : selectMethod e.platform s.vm P1.m.cls T.fill = .method T.fill := by
    obtain ⟨c2, r2, m2, q1, q2, q3, q4, -⟩ := Cond.selects_spec (a' (.selects cls Bundle.tFill Bundle.tFill) (by simp [Bundle.ownAtoms0]))
    cases Option.some.inj (q1.symm.trans hfound)
    cases Option.some.inj (q2.symm.trans (State.methodFound?_of_named Y.fill (by decide)))
    cases Option.some.inj (q3.symm.trans Y.fill)
    rw [Launch.admits_selectMethod X.admits]; exact q4
  obtain ⟨cellS0, hcS0, hiss⟩ := Y.statics
  obtain ⟨u0, hu0⟩ := Cond.staticRefV Y.unassigned L.unassignedStatic L.statics hcS0 hiss (a' (.isRef (.static Bundle.tN "UNASSIGNED_STACK" Bundle.steD)) (by simp [Bundle.ownAtoms0]))
  obtain ⟨sen, hsen⟩ := Cond.staticRefV Y.sentinel L.sentinelStatic L.statics hcS0 hiss (a' (.isRef (.static Bundle.tN "SUPPRESSED_SENTINEL" Bundle.listD)) (by simp [Bundle.ownAtoms0]))
  obtain ⟨ci198, i198, fB, hk198, hg198, ha198, hsB, -, hnB, htB, hffB⟩ := Cond.ownField (t := .object "java/lang/Object") Y.found L.cls (by decide +kernel) (a' (.fieldLink Bundle.tN 198 Bundle.tN "backtrace" "Ljava/lang/Object;") (by simp [Bundle.ownAtoms0])) (a' (.lays Bundle.tN Bundle.tN "backtrace" "Ljava/lang/Object;") (by simp [Bundle.ownAtoms0])) e.platform hpl
  obtain ⟨cellS, hcS', heS, -, hkeep⟩ := X.same.2.2.2.2.2 T.aS cellS0 hcS0
  have hcellS : W.heap[T.aS]? = some cellS := hcS'
  have hout' : ∀ i, (⟨T.aS, i⟩ : Loc) ∉ locs := fun i hmem => by
    have := hlocs _ hmem cellS0 hcS0
    rw [hiss] at this; cases this
  have hknownS : cellS.vm ≠ .unknown := by
    rw [heS]; intro hu
    rw [show cellS0.vm = .unknown from hu] at hiss
    cases hiss
  have hneS : T.aS ≠ a := Nat.ne_of_lt (Nat.lt_of_lt_of_le (Array.getElem?_eq_some_iff.mp hcS0).1 hnew)
  obtain ⟨iM, hffM⟩ := Y.msg
  obtain ⟨tyC, dC, hdC, hdnC⟩ := Cond.laysAt hfound hk Y.cause (a' (.lays cls Bundle.tN "cause" "Ljava/lang/Throwable;") (by simp [Bundle.ownAtoms0]))
  obtain ⟨tyS, dS, hdS, hdnS⟩ := Cond.laysAt hfound hk Y.stack (a' (.lays cls Bundle.tN "stackTrace" Bundle.steD) (by simp [Bundle.ownAtoms0]))
  obtain ⟨tyP, dP, hdP, hdnP⟩ := Cond.laysAt hfound hk Y.supp (a' (.lays cls Bundle.tN "suppressedExceptions" Bundle.listD) (by simp [Bundle.ownAtoms0]))
  obtain ⟨tyM, dM, hdM, hdnM⟩ := Cond.laysAt hfound hk hffM (a' (.lays cls Bundle.tN "detailMessage" "Ljava/lang/String;") (by simp [Bundle.ownAtoms0]))
  obtain ⟨tyB, dB, hdB, hdnB⟩ := Cond.laysAt hfound hk hffB (a' (.lays cls Bundle.tN "backtrace" "Ljava/lang/Object;") (by simp [Bundle.ownAtoms0]))
  have bC := Cond.laysApart hdB hdC hdnB hdnC (by rw [hnB, Y.causeName]; decide)
  have bS := Cond.laysApart hdB hdS hdnB hdnS (by rw [hnB, Y.stackName]; decide)
  have bP := Cond.laysApart hdB hdP hdnB hdnP (by rw [hnB, Y.suppName]; decide)
  have hskip : SkipFacts T e.platform s (fun u => u) u0 ((preparedCellV T.toThrowableT (freshCell P1.m.cls kX) a u0 sen).withEntry W.cur) :=
    ⟨{ ci198 := ci198, i198 := i198, fBack := fB }, ⟨hk198, hg198, ha198, hsB⟩, by
      have := fresh_default (c := P1.m.cls) tyB
      rw [htB] at this
      simpa [preparedCellV, Cell.setSlot, Cell.withEntry, Array.getElem?_setIfInBounds, bC, bS, bP, bC.symm, bS.symm, bP.symm, defaultValue] using this, fun _ _ => rfl⟩
  obtain ⟨tm, methC, cdC, kC, vm₁, hnC, -, -, -, -, -, -, -, hW₁, st1⟩ := Steps.initCold (tb := p.tables) (e := e) (below := below) (s := s) (U := W) X.here hexec X.warmed hpl hown (t := Bundle.init0 cls) rfl rfl (Bundle.fit_spec hcls).2
    (a' (.methodLink own ic (Bundle.init0 cls)) (by simp [Bundle.ownAtoms0])) (h (.instanceMethod (Bundle.init0 cls)) (by cases names <;> simp [Bundle.ownAtoms0, Bundle.chain0Atoms, Bundle.passAtoms])) (bytes := Bundle.five) (maxL := 1) (h (.code (Bundle.init0 cls) Bundle.five 1 none) (by cases names <;> simp [Bundle.ownAtoms0, Bundle.chain0Atoms, Bundle.passAtoms]))
    (f := g) hg (a := a) (rest := .ref a :: rest) hstack hd6
  cases Option.some.inj (hnC.symm.trans hP1m)
  have X₁ := X.noted hW₁
  obtain ⟨vm₂, X₂, st2⟩ := X₁.ctorPlainOffV hexec (g := { g with stack := .ref a :: rest }) hg hsize T L Z LZ (P1 :: Ps)
    (fun P hP => by rcases List.mem_cons.mp hP with rfl | hP; exact L1; exact hL P hP) ⟨hlink1, hlink⟩ (u0 := u0) (sen := sen) (self := a) (cell := freshCell P1.m.cls kX) (cellS := cellS)
    hcell (fun _ => by simp) (by simp) rfl rfl hsel0 hselF hcellS hneS hknownS (by rw [hkeep _ (hout' _)]; exact hu0) (by rw [hkeep _ (hout' _)]; exact hsen)
    (Takes.of_laid hk hord tyC (by rw [Y.causeType]; rfl)) (Takes.of_laid hk hord tyS (by rw [Y.stackType]; exact fits_refV_array _ u0)) (Takes.of_laid hk hord tyP (by rw [Y.suppType]; exact fits_refV_object _ sen)) Y.objLocals hskip htr [] hd6
    (by simp only [List.length_cons, hlen]; omega) (by simp only [List.length_cons, hlen]; exact hRlocals)
  have hlt : a < ((W.setVm vm₁).setVm vm₂).heap.size := (Array.getElem?_eq_some_iff.mp hcell).1
  refine ⟨(W.setVm vm₁).setVm vm₂, _, _, X₂, fun y hy => ?_, hlt, rfl, rfl, fun target hwalk => st1 _ (fun acts => ?_)⟩
  · simp only [List.mem_cons, List.not_mem_nil, or_false] at hy
    rcases hy with rfl | rfl | rfl | rfl <;> rfl
  · rw [doInvoke_state]
    exact st2 _ hwalk
end VXK
section VXK2
variable {p : Program} {l : Launch} {e : Env} {R : Room} {s : State} {m : MethodId} {args : Array Value} {below : List Frame} {meth : Method} {c : Code} {H : Heap} {locs : List Loc} {cells slots : Nat} {Q : State → Prop}
variable {ls : Array Slot} {rest : List Value} {D : va_G} {cl : List vw_C} {tys : List (ClassId × FieldType)} {ws : va_W}
/-- 'new E("text")' that isn't thrown at once: the object goes on the stack -/
theorem vx_makeS {cc : ByteArray} {pc : Nat} (hexec : p.tables.exec = Jvm.exec) (hb : c.code = cc) (hl : l.stackTraces = false) {own cls text : String} {names : List String} {ik is ic sa ci : Nat} {A : Nat → Prop} {T0 : u_T}
    (hown : s.vm.findClass own = some m.cls) (hcls : Bundle.fit cls = true) (hnames : ∀ n ∈ names, Bundle.fit n = true)
    (hk : (Cond.classLink own ik cls).before args s = true) (hini : (Cond.initialized cls).before args s = true) (hstr : vk_R own is text sa s) (hat : ∀ w ∈ vx_atS own ic cls names, w.before args s = true)
    (hgood : ∀ w ∈ Cond.classLink own ik cls :: Cond.initialized cls :: vx_atS own ic cls names, vx_ot w = true)
    (hU : vx_Zq Bundle.tN "UNASSIGNED_STACK" Bundle.steD A s s.heap) (hN : vx_Zq Bundle.tN "SUPPRESSED_SENTINEL" Bundle.listD A s s.heap) (hS : va_S A s.heap H locs) (hsize : ls.size = c.maxLocals)
    (d0 : decode cc pc = .ok (.new ik, 3)) (d3 : decode cc (pc + 3) = .ok (.dup, 1)) (d4 : decode cc (pc + 4) = .ok (.ldc is, 2)) (d6 : decode cc (pc + 6) = .ok (.invokespecial ic, 3))
    (hK : va_K D cl tys s) (hP : va_P D cl ws H) (hD : va_D A ws) (hA : ∀ q, s.heap.size ≤ q → A q) (hc : cl[ci]? = some (cls, T0, 0))
    (hRframes : names.length + 3 < R.frames) (hRlocals : (rest.map fun v => v.category).sum + (13 * (names.length + 1) + 43) ≤ R.locals) (hRcells : cells + 1 ≤ R.cells) (hRslots : slots + 6 ≤ R.slots)
    (kk : ∀ (q : Nat) (H1 : Heap), va_P D cl (ws ++ [(q, .inr (ci, []))]) H1 → va_D A (ws ++ [(q, .inr (ci, []))]) → va_S A s.heap H1 locs → W p l e R s m args below meth c H1 locs (cells + 1) (slots + 6) Q (F0 m (pc + 9) ls (.ref q :: rest))) :
    W p l e R s m args below meth c H locs cells slots Q (F0 m pc ls rest) := by
  intro T hT X
  subst hT
  have htr : e.platform.stackTraces = false := (show e.platform.stackTraces = l.stackTraces by rw [X.admits.platform]).trans hl
  have Y := vx_rebase X (R' := { frames := R.frames, locals := R.locals, cells := 1, slots := 6 }) (Nat.le_refl _) (Nat.le_refl _) hRcells hRslots
  obtain ⟨s', hA'⟩ : ∃ z, z = (T.setVm s.vm).setFrames (.invoking m args :: below) := ⟨_, rfl⟩
  rw [← hA'] at Y
  have hvm : s'.vm = s.vm := by rw [hA']; rfl
  have hhp : s'.heap = T.heap := by rw [hA']; rfl
  have hW0 : s.WarmedH s'.vm := by rw [hvm]; exact State.WarmedH.refl s
  have hat' : ∀ w ∈ vx_atS own ic cls names, w.before args s' = true := fun w hw => vx_ot_at hW0 hvm.symm (hgood w (List.mem_cons_of_mem _ (List.mem_cons_of_mem _ hw))) (hat w hw)
  have hk' : (Cond.classLink own ik cls).before args s' = true := vx_ot_at hW0 hvm.symm (hgood _ List.mem_cons_self) hk
  have hini' : (Cond.initialized cls).before args s' = true := vx_ot_at hW0 hvm.symm (hgood _ (List.mem_cons_of_mem _ List.mem_cons_self)) hini
  have hU' : vx_Zq Bundle.tN "UNASSIGNED_STACK" Bundle.steD A s' s'.heap := by rw [hhp]; exact vx_Zq.moved hW0.alike (hU.kept hS.2.1)
  have hN' : vx_Zq Bundle.tN "SUPPRESSED_SENTINEL" Bundle.listD A s' s'.heap := by rw [hhp]; exact vx_Zq.moved hW0.alike (hN.kept hS.2.1)
  have h : ∀ w ∈ Bundle.ownAtoms own ic cls names, w.before args s' = true := vx_own hat' (vx_isRefq hU'.1) (vx_isRefq hN'.1) hU'.2.word hN'.2.word
  have hown' : s'.vm.findClass own = some m.cls := by rw [hvm]; exact hown
  have hins : (Cond.instantiable cls 6).before args s' = true := h _ (by simp [Bundle.ownAtoms])
  obtain ⟨vm₁, cX, kX, hfX, hkX, -, -, X₁, st1⟩ := Y.newCold hexec (own := own) (C := cls) (index := ik) (n := 6) hown' hk' hins hini'
    (g := F0 m pc ls rest) rfl (by rw [hb]; exact d0) (Nat.le_refl _) (Nat.le_refl _)
  generalize hT1 : (T.setVm vm₁).pushCell { cls := cX, slots := kX.instanceTypes.map defaultValue, vm := .none } = T1 at X₁ st1
  have hcat : (Value.ref T.heap.size).category = 1 := rfl
  have hcellA : T1.heap[T.heap.size]? = some (freshCell cX kX) := by rw [← hT1]; exact State.heap_pushCell_size _ _
  have d3' : decode c.code (pc + 3) = .ok (.dup, 1) := by rw [hb]; exact d3
  have d4' : decode c.code (pc + 4) = .ok (.ldc is, 2) := by rw [hb]; exact d4
  have hstr' : vk_R own is text sa s' := vk_R.warm hW0 hstr
  obtain ⟨V, ce, L, Z, hL, hlt, hcl9, hvm9, st⟩ := vx_ctorMadeS X₁ hexec htr (own := own) (cls := cls) (names := names) (ic := ic) hown' hcls hnames h (fun x hx => nomatch hx) hfX hkX hcellA (by rw [hhp]; exact Nat.le_refl _) (msg := .ref sa) rfl
    (g := { method := m, pc := pc + 6, locals := ls, stack := .ref sa :: .ref T.heap.size :: .ref T.heap.size :: rest, locked := none }) rfl hsize (rest := rest) rfl
    (by rw [hb]; exact d6) hRframes (by simp only [List.map_cons, List.sum_cons, hcat]; omega)
  have Z0 := Stand.forget (locs := []) Z (fun y hy => by rw [hL y hy, hhp]; exact Nat.le_refl _)
  obtain ⟨f1, f2⟩ := vx_frame Z0.same
  rw [hhp] at f1 f2
  have hcid : ce.cls = D.1 ci := by
    rw [hcl9]
    have h1 := (hK.1 ci _ hc).2.1
    rw [hvm] at hfX
    exact Option.some.inj (hfX.symm.trans h1)
  have hh : (V.setCell T.heap.size ce).heap[T.heap.size]? = some ce := heapAt_setCell_self (s := V) ce hlt
  subst hA'
  have X5 := vx_back9 X Y Z0
  have X6 : Stand p l e R s m args below meth c (V.setCell T.heap.size ce) locs (cells + 1) (slots + 6) := { X5 with same := X5.same.mono (by omega) (by omega) }
  have hk9 : ∀ (k : Nat) (x : Nat × va_E), ws[k]? = some x → (V.setCell T.heap.size ce).heap[x.1]? = T.heap[x.1]? := fun k x hx => f2 x.1 ((hP k x hx).lt) (fun z hz => nomatch hz)
  obtain ⟨t, a1, b1⟩ := kk T.heap.size (V.setCell T.heap.size ce).heap ((hP.kept hk9).app (fun k x hx => by
      have hz : k < 1 := (List.getElem?_eq_some_iff.mp hx).1
      rw [show k = 0 by omega] at hx
      cases hx
      exact ⟨_, hc, ce, hh, hcid, hvm9, fun k hk => absurd hk (Nat.not_lt_zero k)⟩)) (hD.push hP rfl (hA _ hS.1)) ⟨Nat.le_trans hS.1 f1, fun q h1 h2 => (f2 q (Nat.lt_of_lt_of_le h1 hS.1) (fun z hz => nomatch hz)).trans (hS.2.1 q h1 h2), hS.2.2⟩ _ rfl X6
  refine ⟨t, st1 _ ?_, b1⟩
  show Steps p.tables e below (T1.setTop { method := m, pc := pc + 3, locals := ls, stack := .ref T.heap.size :: rest, locked := none }) _
  jvm_step X₁.here [X₁.here.top, hexec, d3', Value.category]
  exact X₁.ldcString hexec (own := own) (text := text) (index := is) (a := sa) hown' hstr'.1 hstr'.2
    (g := { method := m, pc := pc + 4, locals := ls, stack := .ref T.heap.size :: .ref T.heap.size :: rest, locked := none }) rfl d4' _ (st _ a1)
/-- 'new E()' that isn't thrown at once: the object goes on the stack -/
theorem vx_make0 {cc : ByteArray} {pc : Nat} (hexec : p.tables.exec = Jvm.exec) (hb : c.code = cc) (hl : l.stackTraces = false) {own cls : String} {names : List String} {ik ic ci : Nat} {A : Nat → Prop} {T0 : u_T}
    (hown : s.vm.findClass own = some m.cls) (hcls : Bundle.fit cls = true) (hnames : ∀ n ∈ names, Bundle.fit n = true)
    (hk : (Cond.classLink own ik cls).before args s = true) (hini : (Cond.initialized cls).before args s = true) (hat : ∀ w ∈ vx_at0 own ic cls names, w.before args s = true)
    (hgood : ∀ w ∈ Cond.classLink own ik cls :: Cond.initialized cls :: vx_at0 own ic cls names, vx_ot w = true)
    (hU : vx_Zq Bundle.tN "UNASSIGNED_STACK" Bundle.steD A s s.heap) (hN : vx_Zq Bundle.tN "SUPPRESSED_SENTINEL" Bundle.listD A s s.heap) (hS : va_S A s.heap H locs) (hsize : ls.size = c.maxLocals)
    (d0 : decode cc pc = .ok (.new ik, 3)) (d3 : decode cc (pc + 3) = .ok (.dup, 1)) (d4 : decode cc (pc + 4) = .ok (.invokespecial ic, 3))
    (hK : va_K D cl tys s) (hP : va_P D cl ws H) (hD : va_D A ws) (hA : ∀ q, s.heap.size ≤ q → A q) (hc : cl[ci]? = some (cls, T0, 0))
    (hRframes : names.length + 3 < R.frames) (hRlocals : (rest.map fun v => v.category).sum + (13 * (names.length + 1) + 42) ≤ R.locals) (hRcells : cells + 1 ≤ R.cells) (hRslots : slots + 6 ≤ R.slots)
    (kk : ∀ (q : Nat) (H1 : Heap), va_P D cl (ws ++ [(q, .inr (ci, []))]) H1 → va_D A (ws ++ [(q, .inr (ci, []))]) → va_S A s.heap H1 locs → W p l e R s m args below meth c H1 locs (cells + 1) (slots + 6) Q (F0 m (pc + 7) ls (.ref q :: rest))) :
    W p l e R s m args below meth c H locs cells slots Q (F0 m pc ls rest) := by
  intro T hT X
  subst hT
  have htr : e.platform.stackTraces = false := (show e.platform.stackTraces = l.stackTraces by rw [X.admits.platform]).trans hl
  have Y := vx_rebase X (R' := { frames := R.frames, locals := R.locals, cells := 1, slots := 6 }) (Nat.le_refl _) (Nat.le_refl _) hRcells hRslots
  obtain ⟨s', hA'⟩ : ∃ z, z = (T.setVm s.vm).setFrames (.invoking m args :: below) := ⟨_, rfl⟩
  rw [← hA'] at Y
  have hvm : s'.vm = s.vm := by rw [hA']; rfl
  have hhp : s'.heap = T.heap := by rw [hA']; rfl
  have hW0 : s.WarmedH s'.vm := by rw [hvm]; exact State.WarmedH.refl s
  have hat' : ∀ w ∈ vx_at0 own ic cls names, w.before args s' = true := fun w hw => vx_ot_at hW0 hvm.symm (hgood w (List.mem_cons_of_mem _ (List.mem_cons_of_mem _ hw))) (hat w hw)
  have hk' : (Cond.classLink own ik cls).before args s' = true := vx_ot_at hW0 hvm.symm (hgood _ List.mem_cons_self) hk
  have hini' : (Cond.initialized cls).before args s' = true := vx_ot_at hW0 hvm.symm (hgood _ (List.mem_cons_of_mem _ List.mem_cons_self)) hini
  have hU' : vx_Zq Bundle.tN "UNASSIGNED_STACK" Bundle.steD A s' s'.heap := by rw [hhp]; exact vx_Zq.moved hW0.alike (hU.kept hS.2.1)
  have hN' : vx_Zq Bundle.tN "SUPPRESSED_SENTINEL" Bundle.listD A s' s'.heap := by rw [hhp]; exact vx_Zq.moved hW0.alike (hN.kept hS.2.1)
  have h : ∀ w ∈ Bundle.ownAtoms0 own ic cls names, w.before args s' = true := vx_own hat' (vx_isRefq hU'.1) (vx_isRefq hN'.1) hU'.2.word hN'.2.word
  have hown' : s'.vm.findClass own = some m.cls := by rw [hvm]; exact hown
  have hins : (Cond.instantiable cls 6).before args s' = true := h _ (by simp [Bundle.ownAtoms0])
  obtain ⟨vm₁, cX, kX, hfX, hkX, -, -, X₁, st1⟩ := Y.newCold hexec (own := own) (C := cls) (index := ik) (n := 6) hown' hk' hins hini'
    (g := F0 m pc ls rest) rfl (by rw [hb]; exact d0) (Nat.le_refl _) (Nat.le_refl _)
  generalize hT1 : (T.setVm vm₁).pushCell { cls := cX, slots := kX.instanceTypes.map defaultValue, vm := .none } = T1 at X₁ st1
  have hcat : (Value.ref T.heap.size).category = 1 := rfl
  have hcellA : T1.heap[T.heap.size]? = some (freshCell cX kX) := by rw [← hT1]; exact State.heap_pushCell_size _ _
  have d3' : decode c.code (pc + 3) = .ok (.dup, 1) := by rw [hb]; exact d3
  obtain ⟨V, ce, L, Z, hL, hlt, hcl9, hvm9, st⟩ := vx_ctorMade0 X₁ hexec htr (own := own) (cls := cls) (names := names) (ic := ic) hown' hcls hnames h (fun x hx => nomatch hx) hfX hkX hcellA (by rw [hhp]; exact Nat.le_refl _)
    (g := { method := m, pc := pc + 4, locals := ls, stack := .ref T.heap.size :: .ref T.heap.size :: rest, locked := none }) rfl hsize (rest := rest) rfl
    (by rw [hb]; exact d4) hRframes (by simp only [List.map_cons, List.sum_cons, hcat]; omega)
  have Z0 := Stand.forget (locs := []) Z (fun y hy => by rw [hL y hy, hhp]; exact Nat.le_refl _)
  obtain ⟨f1, f2⟩ := vx_frame Z0.same
  rw [hhp] at f1 f2
  have hcid : ce.cls = D.1 ci := by
    rw [hcl9]
    have h1 := (hK.1 ci _ hc).2.1
    rw [hvm] at hfX
    exact Option.some.inj (hfX.symm.trans h1)
  have hh : (V.setCell T.heap.size ce).heap[T.heap.size]? = some ce := heapAt_setCell_self (s := V) ce hlt
  subst hA'
  have X5 := vx_back9 X Y Z0
  have X6 : Stand p l e R s m args below meth c (V.setCell T.heap.size ce) locs (cells + 1) (slots + 6) := { X5 with same := X5.same.mono (by omega) (by omega) }
  have hk9 : ∀ (k : Nat) (x : Nat × va_E), ws[k]? = some x → (V.setCell T.heap.size ce).heap[x.1]? = T.heap[x.1]? := fun k x hx => f2 x.1 ((hP k x hx).lt) (fun z hz => nomatch hz)
  obtain ⟨t, a1, b1⟩ := kk T.heap.size (V.setCell T.heap.size ce).heap ((hP.kept hk9).app (fun k x hx => by
      have hz : k < 1 := (List.getElem?_eq_some_iff.mp hx).1
      rw [show k = 0 by omega] at hx
      cases hx
      exact ⟨_, hc, ce, hh, hcid, hvm9, fun k hk => absurd hk (Nat.not_lt_zero k)⟩)) (hD.push hP rfl (hA _ hS.1)) ⟨Nat.le_trans hS.1 f1, fun q h1 h2 => (f2 q (Nat.lt_of_lt_of_le h1 hS.1) (fun z hz => nomatch hz)).trans (hS.2.1 q h1 h2), hS.2.2⟩ _ rfl X6
  refine ⟨t, st1 _ ?_, b1⟩
  show Steps p.tables e below (T1.setTop { method := m, pc := pc + 3, locals := ls, stack := .ref T.heap.size :: rest, locked := none }) _
  jvm_step X₁.here [X₁.here.top, hexec, d3', Value.category]
  exact st _ a1
/-- 'throw x' of an object that was made before -/
theorem vx_athrow {cc : ByteArray} {pc : Nat} (hexec : p.tables.exec = Jvm.exec) (hb : c.code = cc) {q : Addr} (hdg : decode cc pc = .ok (.athrow, 1)) (k : vx_W p l e R s m args below meth c H locs cells slots Q (F0 m pc ls rest) q) : W p l e R s m args below meth c H locs cells slots Q (F0 m pc ls (.ref q :: rest)) := by
  intro T hT X
  obtain ⟨t, st, hq⟩ := k T hT X
  refine ⟨t, ?_, hq⟩
  have hdg' : decode c.code pc = .ok (.athrow, 1) := by rw [hb]; exact hdg
  jvm_step X.here [X.here.top, hexec, hdg', athrow.wp_sem]
  exact st
end VXK2
/-! ===== END ===== -/
/-! ===== BEGIN a constructor that throws (launches without stack traces) ===== -/
section VXIA
variable {p : Program} {l : Launch} {e : Env} {R : Room} {s : State} {m : MethodId} {args : Array Value} {below : List Frame} {meth : Method} {c : Code} {T : State} {locs : List Loc} {cells slots : Nat}
theorem vx_callI (X : Stand p l e R s m args below meth c T locs cells slots) (hexec : p.tables.exec = Jvm.exec) {own : String} {index : Nat} {y : MethodName} {bytes : ByteArray} {maxL : Nat}
    (hown : s.vm.findClass own = some m.cls) (hy1 : y.name = "<init>") (hlink : (Cond.methodLink own index y).before args s = true) (hinst : (Cond.instanceMethod y).before args s = true)
    (hcode : (Cond.code y bytes maxL none).before args s = true) (hy : y.cls ≠ "java/lang/invoke/MethodHandle" ∧ y.cls ≠ "java/lang/invoke/VarHandle")
    {W9 : Nat} {Pre : Pt → Array Value → Prop} {Post : Pt → Array Value → Option Value → Pt → Prop} {PostX : Pt → Array Value → Addr → Pt → Prop} (hK : vx_Back l R p e below s args y 3 W9 Pre Post PostX)
    {g : JFrame} (hg : g.method = m) (hsize : g.locals.size = c.maxLocals) {a : Addr} {argsL rest : List Value} (hlen : ∀ sig, parseMethodDescriptor y.desc = some sig → argsL.length = sig.parameters.length)
    (hstack : g.stack = argsL.reverse ++ .ref a :: rest) (hW : 2 * g.monitorRoom + (rest.map fun v => v.category).sum ≤ W9) (hdg : decode c.code g.pc = .ok (.invokespecial index, 3))
    (hpre : ∀ vm₁, s.WarmedH vm₁ → Pre ⟨T.setVm vm₁, locs, cells, slots⟩ (Value.ref a :: argsL).toArray) :
    (∃ (v : Option Value) (vm₁ : Vm) (B : Pt), s.WarmedH vm₁ ∧ Stand p l e R s m args below meth c B.U B.locs B.cells B.slots ∧ Post ⟨T.setVm vm₁, locs, cells, slots⟩ (Value.ref a :: argsL).toArray v B ∧
      ∀ target, Steps p.tables e below (B.U.setTop { g with pc := g.pc + 3, stack := v.toList ++ rest }) target → Steps p.tables e below (T.setTop g) target) ∨
    (∃ (q : Addr) (vm₁ : Vm) (B : Pt), s.WarmedH vm₁ ∧ Stand p l e R s m args below meth c B.U B.locs B.cells B.slots ∧ PostX ⟨T.setVm vm₁, locs, cells, slots⟩ (Value.ref a :: argsL).toArray q B ∧
      Steps p.tables e below (T.setTop g) ((B.U.setTop { g with stack := rest }).pushFrame (.throwing q))) := by
  subst hg
  have hpl : e.platform.magicAccessors = ({} : Platform).magicAccessors := by rw [X.admits.platform]
  obtain ⟨mk, methM, cM, kP, vm₁, hnamed, hmethM, hcodeM, -, hlocalsM, -, hkP, -, hW₁, hstep₁⟩ := Steps.initColdArgs (e := e) X.here hexec X.warmed hpl hown hy1 hy hlink hinst hcode (f := g) rfl hlen hstack hdg
  have X₁ := X.noted hW₁
  rcases hK g.method meth c ⟨T.setVm vm₁, locs, cells, slots⟩ { g with stack := rest } (.invokespecial index) mk (Value.ref a :: argsL).toArray X₁ rfl hsize hdg hW (X₁.named hnamed) (hpre vm₁ X₁.warmed) with ⟨v, B, X', hpost, hsteps⟩ | ⟨q, B, X', hpost, hsteps⟩
  · exact Or.inl ⟨v, vm₁, B, X₁.warmed, X', hpost, fun target h => hstep₁ _ fun acts => by rw [doInvoke_state]; exact hsteps.trans h⟩
  · exact Or.inr ⟨q, vm₁, B, X₁.warmed, X', hpost, hstep₁ _ fun acts => by rw [doInvoke_state]; exact hsteps⟩
end VXIA
section VXIB
variable {p : Program} {l : Launch} {e : Env} {R : Room} {s : State} {m : MethodId} {args : Array Value} {below : List Frame} {meth : Method} {c : Code} {H : Heap} {locs : List Loc} {cells slots : Nat}
variable {y : MethodName} {bytes cc : ByteArray} {maxL nL mc ms n index : Nat} {ret : Option FieldType} {ws : List Cond} {rm : Room} {Pc : Array Value → State → Prop} {Qc : Array Value → State → Outcome → State → Prop} {XC : String → State → State → Prop} {free : Addr → Prop} {Ts : List Cond} {own C : String} {b : Addr} {As rest : List Value} {g : JFrame}
theorem vx_runI (S : CallFix p m c cc nL s args Ts own) (hM : vx_Met l y ws rm Pc Qc XC mc ms free) (cw : CallB R s args own index y bytes maxL none ws rm mc ms n ∧ y.name = "<init>" ∧ (Cond.instanceMethod y).before args s = true) (hp : PreS s H Pc (.ref b :: As))
    (hg : g.method = m) (hn : As.length = n) (hsize : g.locals.size = nL) (hstack : g.stack = As.reverse ++ .ref b :: rest) (hW : 2 * g.monitorRoom + (rest.map fun v => v.category).sum ≤ 8) (hdg : decode cc g.pc = .ok (.invokespecial index, 3)) (hf : cells + mc ≤ R.cells ∧ slots + ms ≤ R.slots) :
    vx_Run p l e R s m args below meth c H locs cells slots mc ms g rest (Qc (Value.ref b :: As).toArray) XC free := by
  have hK : vx_Back l R p e below s args y 3 8 (PreOf R mc ms Pc) (PostOf Qc mc ms free) (vx_Post XC mc ms free) := vx_callBack cw.1 hM hp.1
  obtain ⟨⟨-, -, -, -, -, -, hcode, -, hy, hlen, hl⟩, hy1, hin⟩ := cw
  obtain ⟨hx, hb, hml, ho, -⟩ := S
  have hPc := hp.2
  intro T hT X
  rcases vx_callI X hx (bytes := bytes) (maxL := maxL) ho hy1 hl hin hcode hy hK hg (hsize.trans hml.symm) (a := b) (argsL := As) (rest := rest) (fun sig h => hn.trans (hlen sig h)) hstack hW (by rw [hb]; exact hdg)
    (fun vm₁ hW₁ => ⟨hf.1, hf.2, hPc (T.setVm vm₁) hT hW₁⟩) with ⟨v, vm₁, ⟨U', l2, c2, s2⟩, hW₁, X', ⟨g', mk, t, L, e1, e2, hq, h1, hL, h2, h3⟩, st⟩ | ⟨q, vm₁, ⟨U', l2, c2, s2⟩, hW₁, X', ⟨g', mk, t, L, E, ce, e1, e2, hq, hce, hcv, hcl, h1, hL, h2, h3⟩, st⟩
  · dsimp only [Pt.U, Pt.locs, Pt.cells, Pt.slots] at X' e1 e2 h1 h2 h3 st
    subst h1; subst h2; subst h3
    exact Or.inl ⟨v, (T.setVm vm₁).calling g' mk (Value.ref b :: As).toArray, t, U', L, hT, X', hL, e1, e2, hq, st⟩
  · dsimp only [Pt.U, Pt.locs, Pt.cells, Pt.slots] at X' e1 e2 h1 h2 h3 st hcl
    subst h1; subst h2; subst h3
    exact Or.inr ⟨q, (T.setVm vm₁).calling g' mk (Value.ref b :: As).toArray, t, U', L, E, ce, hT, X', hL, e1, e2, hq, hce, hcv, vx_cls hW₁ hcl, st⟩
end VXIB
/-! ===== END ===== -/
/-! ===== BEGIN a private constructor of a nest mate that throws ===== -/
section VXIC
variable {p : Program} {l : Launch} {e : Env} {R : Room} {s : State} {m : MethodId} {args : Array Value} {below : List Frame} {meth : Method} {c : Code} {T : State} {locs : List Loc} {cells slots : Nat}
theorem vx_callIN (X : Stand p l e R s m args below meth c T locs cells slots) (hexec : p.tables.exec = Jvm.exec) {own : String} {index : Nat} {host : String} {y : MethodName} {bytes : ByteArray} {maxL : Nat}
    (hown : s.vm.findClass own = some m.cls) (hy1 : y.name = "<init>") (hlink : (Cond.methodLinkNest own index y host).before args s = true) (hinst : (Cond.instanceMethod y).before args s = true)
    (hcode : (Cond.code y bytes maxL none).before args s = true) (hy : y.cls ≠ "java/lang/invoke/MethodHandle" ∧ y.cls ≠ "java/lang/invoke/VarHandle")
    {W9 : Nat} {Pre : Pt → Array Value → Prop} {Post : Pt → Array Value → Option Value → Pt → Prop} {PostX : Pt → Array Value → Addr → Pt → Prop} (hK : vx_Back l R p e below s args y 3 W9 Pre Post PostX)
    {g : JFrame} (hg : g.method = m) (hsize : g.locals.size = c.maxLocals) {a : Addr} {argsL rest : List Value} (hlen : ∀ sig, parseMethodDescriptor y.desc = some sig → argsL.length = sig.parameters.length)
    (hstack : g.stack = argsL.reverse ++ .ref a :: rest) (hW : 2 * g.monitorRoom + (rest.map fun v => v.category).sum ≤ W9) (hdg : decode c.code g.pc = .ok (.invokespecial index, 3))
    (hpre : ∀ vm₁, s.WarmedH vm₁ → Pre ⟨T.setVm vm₁, locs, cells, slots⟩ (Value.ref a :: argsL).toArray) :
    (∃ (v : Option Value) (vm₁ : Vm) (B : Pt), s.WarmedH vm₁ ∧ Stand p l e R s m args below meth c B.U B.locs B.cells B.slots ∧ Post ⟨T.setVm vm₁, locs, cells, slots⟩ (Value.ref a :: argsL).toArray v B ∧
      ∀ target, Steps p.tables e below (B.U.setTop { g with pc := g.pc + 3, stack := v.toList ++ rest }) target → Steps p.tables e below (T.setTop g) target) ∨
    (∃ (q : Addr) (vm₁ : Vm) (B : Pt), s.WarmedH vm₁ ∧ Stand p l e R s m args below meth c B.U B.locs B.cells B.slots ∧ PostX ⟨T.setVm vm₁, locs, cells, slots⟩ (Value.ref a :: argsL).toArray q B ∧
      Steps p.tables e below (T.setTop g) ((B.U.setTop { g with stack := rest }).pushFrame (.throwing q))) := by
  subst hg
  have hpl : e.platform.magicAccessors = ({} : Platform).magicAccessors := by rw [X.admits.platform]
  obtain ⟨mk, methM, cM, kP, vm₁, hnamed, hmethM, hcodeM, -, hlocalsM, -, hkP, -, hW₁, hstep₁⟩ := Steps.initColdArgsNest (e := e) X.here hexec X.warmed hpl hown hy1 hy hlink hinst hcode (f := g) rfl hlen hstack hdg
  have X₁ := X.noted hW₁
  rcases hK g.method meth c ⟨T.setVm vm₁, locs, cells, slots⟩ { g with stack := rest } (.invokespecial index) mk (Value.ref a :: argsL).toArray X₁ rfl hsize hdg hW (X₁.named hnamed) (hpre vm₁ X₁.warmed) with ⟨v, B, X', hpost, hsteps⟩ | ⟨q, B, X', hpost, hsteps⟩
  · exact Or.inl ⟨v, vm₁, B, X₁.warmed, X', hpost, fun target h => hstep₁ _ fun acts => by rw [doInvoke_state]; exact hsteps.trans h⟩
  · exact Or.inr ⟨q, vm₁, B, X₁.warmed, X', hpost, hstep₁ _ fun acts => by rw [doInvoke_state]; exact hsteps⟩
end VXIC
section VXID
variable {p : Program} {l : Launch} {e : Env} {R : Room} {s : State} {m : MethodId} {args : Array Value} {below : List Frame} {meth : Method} {c : Code} {H : Heap} {locs : List Loc} {cells slots : Nat}
theorem vx_runIN {y : MethodName} {bytes cc : ByteArray} {maxL nL mc ms n index : Nat} {ws : List Cond} {rm : Room} {Pc : Array Value → State → Prop} {Qc : Array Value → State → Outcome → State → Prop} {XC : String → State → State → Prop} {free : Addr → Prop} {Ts : List Cond} {own host : String} {b : Addr} {As rest : List Value} {g : JFrame}
    (S : CallFix p m c cc nL s args Ts own) (hM : vx_Met l y ws rm Pc Qc XC mc ms free) (cw : va_CN R s args own index y host bytes maxL none ws rm mc ms n ∧ y.name = "<init>" ∧ (Cond.instanceMethod y).before args s = true) (hp : PreS s H Pc (.ref b :: As))
    (hg : g.method = m) (hn : As.length = n) (hsize : g.locals.size = nL) (hstack : g.stack = As.reverse ++ .ref b :: rest) (hW : 2 * g.monitorRoom + (rest.map fun v => v.category).sum ≤ 8) (hdg : decode cc g.pc = .ok (.invokespecial index, 3)) (hf : cells + mc ≤ R.cells ∧ slots + ms ≤ R.slots) :
    vx_Run p l e R s m args below meth c H locs cells slots mc ms g rest (Qc (Value.ref b :: As).toArray) XC free := by
  obtain ⟨⟨⟨hrc, hrs, hfr, hlo, hws, hcw⟩, hcode, hini, hy, hlen, hl⟩, hx1, hx2⟩ := cw
  have hK : vx_Back l R p e below s args y 3 8 (PreOf R mc ms Pc) (PostOf Qc mc ms free) (vx_Post XC mc ms free) := vx_back (bytes := bytes) (maxL := maxL) (ret := none) hM hp.1 hrc hrs hfr hlo hws hcw (fun a' U hW => word_at hW (Or.inl (by first | rfl | simp [Cond.onTables, Cond.keeps, Cond.steady])) hini)
  obtain ⟨hx, hb, hml, ho, -⟩ := S
  have hPc := hp.2
  intro T hT X
  rcases vx_callIN X hx (bytes := bytes) (maxL := maxL) ho hx1 hl hx2 hcode hy hK hg (hsize.trans hml.symm) (a := b) (argsL := As) (rest := rest) (fun sig h => hn.trans (hlen sig h)) hstack hW (by rw [hb]; exact hdg)
    (fun vm₁ hW₁ => ⟨hf.1, hf.2, hPc (T.setVm vm₁) hT hW₁⟩) with ⟨v, vm₁, ⟨U', l2, c2, s2⟩, hW₁, X', ⟨g', mk, t, L, e1, e2, hq, h1, hL, h2, h3⟩, st⟩ | ⟨q, vm₁, ⟨U', l2, c2, s2⟩, hW₁, X', ⟨g', mk, t, L, E, ce, e1, e2, hq, hce, hcv, hcl, h1, hL, h2, h3⟩, st⟩
  · dsimp only [Pt.U, Pt.locs, Pt.cells, Pt.slots] at X' e1 e2 h1 h2 h3 st
    subst h1; subst h2; subst h3
    exact Or.inl ⟨v, (T.setVm vm₁).calling g' mk (Value.ref b :: As).toArray, t, U', L, hT, X', hL, e1, e2, hq, st⟩
  · dsimp only [Pt.U, Pt.locs, Pt.cells, Pt.slots] at X' e1 e2 h1 h2 h3 st hcl
    subst h1; subst h2; subst h3
    exact Or.inr ⟨q, (T.setVm vm₁).calling g' mk (Value.ref b :: As).toArray, t, U', L, E, ce, hT, X', hL, e1, e2, hq, hce, hcv, vx_cls hW₁ hcl, st⟩
end VXID
/-! ===== END ===== -/
/-! ===== BEGIN a method of a class above, found by the receiver, that may throw (follows va_callVU, va_runU of this kit) ===== -/
section
variable {p : Program} {l : Launch} {e : Env} {R : Room} {s : State} {m : MethodId} {args : Array Value} {below : List Frame} {meth : Method} {c : Code} {H : Heap} {locs : List Loc} {cells slots : Nat}
theorem vx_callVU {T : State} {locs : List Loc} {cells slots : Nat} (X : Stand p l e R s m args below meth c T locs cells slots) (hexec : p.tables.exec = Jvm.exec) {own C owner : String} {index : Nat} {x y : MethodName} {bytes : ByteArray} {maxL : Nat} {ret : Option FieldType}
    (hown : s.vm.findClass own = some m.cls) (hlink : (Cond.methodLink own index x).before args s = true) (hsame : (Cond.sameMethod x.cls owner x.name x.desc).before args s = true)
    (hd0 : va_Decl s ⟨owner, x.name, x.desc⟩) (howner : owner ≠ "java/lang/invoke/MethodHandle" ∧ owner ≠ "java/lang/invoke/VarHandle")
    (hsel : (Cond.selects C x y).before args s = true) (hinst : (Cond.instanceMethod y).before args s = true) (hcode : (Cond.code y bytes maxL ret).before args s = true)
    {W : Nat} {Pre : Pt → Array Value → Prop} {Post : Pt → Array Value → Option Value → Pt → Prop} {PostX : Pt → Array Value → Addr → Pt → Prop} (hK : vx_Back l R p e below s args y 3 W Pre Post PostX)
    {b : Addr} {cellB : Cell} (hcell : T.heap[b]? = some cellB) (hobj : cellB.vm.isStatics = false) (hcls : s.vm.findClass C = some cellB.cls)
    {g : JFrame} (hg : g.method = m) (hsize : g.locals.size = c.maxLocals) {argsL rest : List Value} (hlen : ∀ sig, parseMethodDescriptor x.desc = some sig → argsL.length = sig.parameters.length)
    (hstack : g.stack = argsL.reverse ++ .ref b :: rest) (hW : 2 * g.monitorRoom + (rest.map fun v => v.category).sum ≤ W) (hdg : decode c.code g.pc = .ok (.invokevirtual index, 3))
    (hpre : ∀ vm₁, s.WarmedH vm₁ → Pre ⟨T.setVm vm₁, locs, cells, slots⟩ (Value.ref b :: argsL).toArray) :
    (∃ (v : Option Value) (vm₁ : Vm) (B : Pt), s.WarmedH vm₁ ∧ Stand p l e R s m args below meth c B.U B.locs B.cells B.slots ∧ Post ⟨T.setVm vm₁, locs, cells, slots⟩ (Value.ref b :: argsL).toArray v B ∧
      ∀ target, Steps p.tables e below (B.U.setTop { g with pc := g.pc + 3, stack := v.toList ++ rest }) target → Steps p.tables e below (T.setTop g) target) ∨
    (∃ (q : Addr) (vm₁ : Vm) (B : Pt), s.WarmedH vm₁ ∧ Stand p l e R s m args below meth c B.U B.locs B.cells B.slots ∧ PostX ⟨T.setVm vm₁, locs, cells, slots⟩ (Value.ref b :: argsL).toArray q B ∧
      Steps p.tables e below (T.setTop g) ((B.U.setTop { g with stack := rest }).pushFrame (.throwing q))) := by
  obtain ⟨r0, r, hn, hrm, hstR, hsigR⟩ := hd0
  obtain ⟨cn, ck, r1, hcn, hck, hni, hf, hn1⟩ := Cond.sameMethod_found hsame
  cases hn.symm.trans hn1
  obtain ⟨mk, methM, hnamed, hmethM, -, habM⟩ := Cond.instanceMethod_spec hinst
  obtain ⟨c2, r2, m2, q1, q2, q3, q4, kP, hkP, hkPi⟩ := Cond.selects_spec hsel
  cases hcls.symm.trans q1
  cases hf.symm.trans q2
  cases hnamed.symm.trans q3
  have hselP : selectMethod e.platform s.vm cellB.cls r0 = .method mk := by rw [Launch.admits_selectMethod X.admits]; exact q4
  obtain ⟨vm₁, X₁, hstep₁⟩ := X.invokevirtualUp hexec hown hlink hsame howner hn hrm hstR (a := b) (cell := cellB) hcell
    (fun z h => by rw [h] at hobj; cases hobj) hselP hmethM habM hkP hkPi (g := g) hg (argsL := argsL) (rest := rest) (hlen _ hsigR) hstack hdg
  rcases hK m meth c ⟨T.setVm vm₁, locs, cells, slots⟩ { g with stack := rest } (.invokevirtual index) mk (Value.ref b :: argsL).toArray X₁ hg hsize hdg hW (X₁.named hnamed) (hpre vm₁ X₁.warmed) with ⟨v, B, X', hpost, hsteps⟩ | ⟨q, B, X', hpost, hsteps⟩
  · exact Or.inl ⟨v, vm₁, B, X₁.warmed, X', hpost, fun target h => hstep₁ _ fun acts => by rw [doInvoke_state]; exact hsteps.trans h⟩
  · exact Or.inr ⟨q, vm₁, B, X₁.warmed, X', hpost, hstep₁ _ fun acts => by rw [doInvoke_state]; exact hsteps⟩
theorem vx_runU {x y : MethodName} {bytes cc : ByteArray} {maxL nL mc ms n index : Nat} {ret : Option FieldType} {ws : List Cond} {rm : Room} {Pc : Array Value → State → Prop} {Qc : Array Value → State → Outcome → State → Prop} {XC : String → State → State → Prop} {free : Addr → Prop} {Ts : List Cond} {own C owner : String} {b : Addr} {As rest : List Value} {g : JFrame}
    (S : CallFix p m c cc nL s args Ts own) (hM : vx_Met l y ws rm Pc Qc XC mc ms free) (cw : va_CU R s args own C owner index x y bytes maxL ret ws rm mc ms n) (hp : PreV s H C b Pc As)
    (hg : g.method = m) (hn : As.length = n) (hsize : g.locals.size = nL) (hstack : g.stack = As.reverse ++ .ref b :: rest) (hW : 2 * g.monitorRoom + (rest.map fun v => v.category).sum ≤ 8) (hdg : decode cc g.pc = .ok (.invokevirtual index, 3)) (hf : cells + mc ≤ R.cells ∧ slots + ms ≤ R.slots) :
    vx_Run p l e R s m args below meth c H locs cells slots mc ms g rest (Qc (Value.ref b :: As).toArray) XC free := by
  obtain ⟨hrc, hrs, hfr, hlo, hws, hcw⟩ := cw.back
  have hini := cw.init
  have hK : vx_Back l R p e below s args y 3 8 (PreOf R mc ms Pc) (PostOf Qc mc ms free) (vx_Post XC mc ms free) := vx_back (bytes := bytes) (maxL := maxL) (ret := ret) hM hp.1 hrc hrs hfr hlo hws hcw (fun a' U hW => word_at hW (Or.inl (by first | rfl | simp [Cond.onTables, Cond.keeps, Cond.steady])) hini)
  obtain ⟨hx, hb, hml, ho, -⟩ := S
  obtain ⟨-, ⟨cellB, hcB, hoB, hclB⟩, hPc⟩ := hp
  intro T hT X
  rcases vx_callVU X hx (C := C) (owner := owner) (bytes := bytes) (maxL := maxL) (ret := ret) ho cw.link cw.same cw.decl cw.notMH cw.sel cw.inst cw.code hK (by rw [hT]; exact hcB) hoB hclB hg (hsize.trans hml.symm) (argsL := As) (rest := rest) (fun sig h => hn.trans (cw.len sig h)) hstack hW (by rw [hb]; exact hdg)
    (fun vm₁ hW₁ => ⟨hf.1, hf.2, hPc (T.setVm vm₁) hT hW₁⟩) with ⟨v, vm₁, ⟨U', l2, c2, s2⟩, hW₁, X', ⟨g', mk, t, L, e1, e2, hq, h1, hL, h2, h3⟩, st⟩ | ⟨q, vm₁, ⟨U', l2, c2, s2⟩, hW₁, X', ⟨g', mk, t, L, E, ce, e1, e2, hq, hce, hcv, hcl, h1, hL, h2, h3⟩, st⟩
  · dsimp only [Pt.U, Pt.locs, Pt.cells, Pt.slots] at X' e1 e2 h1 h2 h3 st
    subst h1; subst h2; subst h3
    exact Or.inl ⟨v, (T.setVm vm₁).calling g' mk (Value.ref b :: As).toArray, t, U', L, hT, X', hL, e1, e2, hq, st⟩
  · dsimp only [Pt.U, Pt.locs, Pt.cells, Pt.slots] at X' e1 e2 h1 h2 h3 st hcl
    subst h1; subst h2; subst h3
    exact Or.inr ⟨q, (T.setVm vm₁).calling g' mk (Value.ref b :: As).toArray, t, U', L, E, ce, hT, X', hL, e1, e2, hq, hce, hcv, vx_cls hW₁ hcl, st⟩
end
/-! ===== END ===== -/
/-! ===== BEGIN super.m(..) that may throw (follows va_callSU, va_runSU) ===== -/
section
variable {p : Program} {l : Launch} {e : Env} {R : Room} {s : State} {m : MethodId} {args : Array Value} {below : List Frame} {meth : Method} {c : Code} {H : Heap} {locs : List Loc} {cells slots : Nat}
theorem vx_callSU {T : State} {locs : List Loc} {cells slots : Nat} (X : Stand p l e R s m args below meth c T locs cells slots) (hexec : p.tables.exec = Jvm.exec) {own : String} {index : Nat} {y : MethodName} {bytes : ByteArray} {maxL : Nat} {ret : Option FieldType}
    (hown : s.vm.findClass own = some m.cls) (hlink : (Cond.methodLink own index y).before args s = true) (hsame : (Cond.sameMethod y.cls y.cls y.name y.desc).before args s = true) (hsup : (Cond.superclass own y.cls).before args s = true)
    (hinst : (Cond.instanceMethod y).before args s = true) (hcode : (Cond.code y bytes maxL ret).before args s = true) (hno : y.name ≠ "<init>")
    {W : Nat} {Pre : Pt → Array Value → Prop} {Post : Pt → Array Value → Option Value → Pt → Prop} {PostX : Pt → Array Value → Addr → Pt → Prop} (hK : vx_Back l R p e below s args y 3 W Pre Post PostX)
    {b : Addr} {cellB : Cell} {kB : Class} (hcell : T.heap[b]? = some cellB) (hobj : cellB.vm.isStatics = false) (hkB : s.vm.classes[cellB.cls]? = some kB)
    {g : JFrame} (hg : g.method = m) (hsize : g.locals.size = c.maxLocals) {argsL rest : List Value} (hlen : ∀ sig, parseMethodDescriptor y.desc = some sig → argsL.length = sig.parameters.length)
    (hstack : g.stack = argsL.reverse ++ .ref b :: rest) (hW : 2 * g.monitorRoom + (rest.map fun v => v.category).sum ≤ W) (hdg : decode c.code g.pc = .ok (.invokespecial index, 3))
    (hpre : ∀ vm₁, s.WarmedH vm₁ → Pre ⟨T.setVm vm₁, locs, cells, slots⟩ (Value.ref b :: argsL).toArray) :
    (∃ (v : Option Value) (vm₁ : Vm) (B : Pt), s.WarmedH vm₁ ∧ Stand p l e R s m args below meth c B.U B.locs B.cells B.slots ∧ Post ⟨T.setVm vm₁, locs, cells, slots⟩ (Value.ref b :: argsL).toArray v B ∧
      ∀ target, Steps p.tables e below (B.U.setTop { g with pc := g.pc + 3, stack := v.toList ++ rest }) target → Steps p.tables e below (T.setTop g) target) ∨
    (∃ (q : Addr) (vm₁ : Vm) (B : Pt), s.WarmedH vm₁ ∧ Stand p l e R s m args below meth c B.U B.locs B.cells B.slots ∧ PostX ⟨T.setVm vm₁, locs, cells, slots⟩ (Value.ref b :: argsL).toArray q B ∧
      Steps p.tables e below (T.setTop g) ((B.U.setTop { g with stack := rest }).pushFrame (.throwing q))) := by
  obtain ⟨mk, methM, hnamed, hmethM, hstM, habM⟩ := Cond.instanceMethod_spec hinst
  obtain ⟨methM', cM, hmethM', -, -, -, -, -, -, hsigM⟩ := Cond.code_spec hnamed hcode
  cases hmethM.symm.trans hmethM'
  obtain ⟨ps, dk, kp, hps, hdk, hkp, hsuper, -, -, hnid⟩ := Cond.superclass_spec hown hsup
  have hn : s.methodNamed? ⟨y.cls, y.name, y.desc⟩ = some mk := hnamed
  have hpm : ps = mk.cls := Option.some.inj (hps.symm.trans (findClass_of_methodNamed hnamed))
  have hsub : s.vm.isSubclass ps mk.cls = true := by rw [hpm]; simp [Vm.isSubclass, Vm.isSubclassAux]
  obtain ⟨vm₁, X₁, hstep₁⟩ := X.invokespecialUp hexec hown hlink hsame hn hmethM hstM habM hno hdk hnid hps hsuper hsub (a := b) (cell := cellB) hcell
    (fun z h => by rw [h] at hobj; cases hobj) hkB (g := g) hg (argsL := argsL) (rest := rest) (hlen _ hsigM) hstack hdg
  rcases hK m meth c ⟨T.setVm vm₁, locs, cells, slots⟩ { g with stack := rest } (.invokespecial index) mk (Value.ref b :: argsL).toArray X₁ hg hsize hdg hW (X₁.named hnamed) (hpre vm₁ X₁.warmed) with ⟨v, B, X', hpost, hsteps⟩ | ⟨q, B, X', hpost, hsteps⟩
  · exact Or.inl ⟨v, vm₁, B, X₁.warmed, X', hpost, fun target h => hstep₁ _ (by rw [doInvoke_state]; exact hsteps.trans h)⟩
  · exact Or.inr ⟨q, vm₁, B, X₁.warmed, X', hpost, hstep₁ _ (by rw [doInvoke_state]; exact hsteps)⟩
theorem vx_runSU {y : MethodName} {bytes cc : ByteArray} {maxL nL mc ms n index : Nat} {ret : Option FieldType} {ws : List Cond} {rm : Room} {Pc : Array Value → State → Prop} {Qc : Array Value → State → Outcome → State → Prop} {XC : String → State → State → Prop} {free : Addr → Prop} {Ts : List Cond} {own C : String} {cC : ClassId} {b : Addr} {As rest : List Value} {g : JFrame}
    (hat : ClassAt s C cC) (S : CallFix p m c cc nL s args Ts own) (hM : vx_Met l y ws rm Pc Qc XC mc ms free) (cw : va_CS R s args own index y bytes maxL ret ws rm mc ms n) (hp : PreV s H C b Pc As)
    (hg : g.method = m) (hn : As.length = n) (hsize : g.locals.size = nL) (hstack : g.stack = As.reverse ++ .ref b :: rest) (hW : 2 * g.monitorRoom + (rest.map fun v => v.category).sum ≤ 8) (hdg : decode cc g.pc = .ok (.invokespecial index, 3)) (hf : cells + mc ≤ R.cells ∧ slots + ms ≤ R.slots) :
    vx_Run p l e R s m args below meth c H locs cells slots mc ms g rest (Qc (Value.ref b :: As).toArray) XC free := by
  obtain ⟨⟨hrc, hrs, hfr, hlo, hws, hcw⟩, hl1, hl2, hl3, hl4, hini, hcode, hno, hlen⟩ := cw
  have hK : vx_Back l R p e below s args y 3 8 (PreOf R mc ms Pc) (PostOf Qc mc ms free) (vx_Post XC mc ms free) := vx_back (bytes := bytes) (maxL := maxL) (ret := ret) hM hp.1 hrc hrs hfr hlo hws hcw (fun a' U hW => word_at hW (Or.inl (by first | rfl | simp [Cond.onTables, Cond.keeps, Cond.steady])) hini)
  obtain ⟨hx, hb, hml, ho, -⟩ := S
  obtain ⟨-, ⟨cellB, hcB, hoB, hclB⟩, hPc⟩ := hp
  obtain ⟨hfc, kB, hkB, -⟩ := hat
  cases hfc.symm.trans hclB
  intro T hT X
  rcases vx_callSU X hx (bytes := bytes) (maxL := maxL) (ret := ret) ho hl1 hl2 hl3 hl4 hcode hno hK (by rw [hT]; exact hcB) hoB hkB hg (hsize.trans hml.symm) (argsL := As) (rest := rest) (fun sig h => hn.trans (hlen sig h)) hstack hW (by rw [hb]; exact hdg)
    (fun vm₁ hW₁ => ⟨hf.1, hf.2, hPc (T.setVm vm₁) hT hW₁⟩) with ⟨v, vm₁, ⟨U', l2, c2, s2⟩, hW₁, X', ⟨g', mk, t, L, e1, e2, hq, h1, hL, h2, h3⟩, st⟩ | ⟨q, vm₁, ⟨U', l2, c2, s2⟩, hW₁, X', ⟨g', mk, t, L, E, ce, e1, e2, hq, hce, hcv, hcl, h1, hL, h2, h3⟩, st⟩
  · dsimp only [Pt.U, Pt.locs, Pt.cells, Pt.slots] at X' e1 e2 h1 h2 h3 st
    subst h1; subst h2; subst h3
    exact Or.inl ⟨v, (T.setVm vm₁).calling g' mk (Value.ref b :: As).toArray, t, U', L, hT, X', hL, e1, e2, hq, st⟩
  · dsimp only [Pt.U, Pt.locs, Pt.cells, Pt.slots] at X' e1 e2 h1 h2 h3 st hcl
    subst h1; subst h2; subst h3
    exact Or.inr ⟨q, (T.setVm vm₁).calling g' mk (Value.ref b :: As).toArray, t, U', L, E, ce, hT, X', hL, e1, e2, hq, hce, hcv, vx_cls hW₁ hcl, st⟩
end
/-! ===== END ===== -/
/-! ===== BEGIN a private method of a nest mate that may throw (follows va_callVN, va_callSN, va_runVN, va_runSN) ===== -/
section
variable {p : Program} {l : Launch} {e : Env} {R : Room} {s : State} {m : MethodId} {args : Array Value} {below : List Frame} {meth : Method} {c : Code} {H : Heap} {locs : List Loc} {cells slots : Nat}
variable {T : State}
theorem vx_callVN (X : Stand p l e R s m args below meth c T locs cells slots) (hexec : p.tables.exec = Jvm.exec) {own C : String} {index : Nat} {host : String} {y : MethodName} {bytes : ByteArray} {maxL : Nat} {ret : Option FieldType}
    (hown : s.vm.findClass own = some m.cls) (hlink : (Cond.methodLinkNest own index y host).before args s = true) (hinst : (Cond.instanceMethod y).before args s = true) (hsel : (Cond.selects C y y).before args s = true)
    (hcode : (Cond.code y bytes maxL ret).before args s = true) (hy : y.cls ≠ "java/lang/invoke/MethodHandle" ∧ y.cls ≠ "java/lang/invoke/VarHandle")
    {W : Nat} {Pre : Pt → Array Value → Prop} {Post : Pt → Array Value → Option Value → Pt → Prop} {PostX : Pt → Array Value → Addr → Pt → Prop} (hK : vx_Back l R p e below s args y 3 W Pre Post PostX)
    {b : Addr} {cellB : Cell} (hcell : T.heap[b]? = some cellB) (hobj : cellB.vm.isStatics = false) (hcls : s.vm.findClass C = some cellB.cls)
    {g : JFrame} (hg : g.method = m) (hsize : g.locals.size = c.maxLocals) {argsL rest : List Value} (hlen : ∀ sig, parseMethodDescriptor y.desc = some sig → argsL.length = sig.parameters.length)
    (hstack : g.stack = argsL.reverse ++ .ref b :: rest) (hW : 2 * g.monitorRoom + (rest.map fun v => v.category).sum ≤ W) (hdg : decode c.code g.pc = .ok (.invokevirtual index, 3))
    (hpre : ∀ vm₁, s.WarmedH vm₁ → Pre ⟨T.setVm vm₁, locs, cells, slots⟩ (Value.ref b :: argsL).toArray) :
    (∃ (v : Option Value) (vm₁ : Vm) (B : Pt), s.WarmedH vm₁ ∧ Stand p l e R s m args below meth c B.U B.locs B.cells B.slots ∧ Post ⟨T.setVm vm₁, locs, cells, slots⟩ (Value.ref b :: argsL).toArray v B ∧
      ∀ target, Steps p.tables e below (B.U.setTop { g with pc := g.pc + 3, stack := v.toList ++ rest }) target → Steps p.tables e below (T.setTop g) target) ∨
    (∃ (q : Addr) (vm₁ : Vm) (B : Pt), s.WarmedH vm₁ ∧ Stand p l e R s m args below meth c B.U B.locs B.cells B.slots ∧ PostX ⟨T.setVm vm₁, locs, cells, slots⟩ (Value.ref b :: argsL).toArray q B ∧
      Steps p.tables e below (T.setTop g) ((B.U.setTop { g with stack := rest }).pushFrame (.throwing q))) := by
  obtain ⟨mk, methM, hnamed, hmethM, hstM, habM⟩ := Cond.instanceMethod_spec hinst
  obtain ⟨methM', cM, hmethM', -, -, -, -, -, -, hsigM⟩ := Cond.code_spec hnamed hcode
  cases hmethM.symm.trans hmethM'
  obtain ⟨c2, r2, m2, q1, q2, q3, q4, kP, hkP, hkPi⟩ := Cond.selects_spec hsel
  cases hcls.symm.trans q1
  cases (State.methodFound?_of_named hnamed hy).symm.trans q2
  cases hnamed.symm.trans q3
  have hselP : selectMethod e.platform s.vm cellB.cls mk = .method mk := by rw [Launch.admits_selectMethod X.admits]; exact q4
  obtain ⟨vm₁, X₁, hstep₁⟩ := X.invokevirtualNest hexec hown hlink hnamed hmethM hstM hkP hkPi hy (a := b) (cell := cellB) hcell
    (fun z h => by rw [h] at hobj; cases hobj) hselP hmethM habM hkP hkPi (g := g) hg (argsL := argsL) (rest := rest) (hlen _ hsigM) hstack hdg
  rcases hK m meth c ⟨T.setVm vm₁, locs, cells, slots⟩ { g with stack := rest } (.invokevirtual index) mk (Value.ref b :: argsL).toArray X₁ hg hsize hdg hW (X₁.named hnamed) (hpre vm₁ X₁.warmed) with ⟨v, B, X', hpost, hsteps⟩ | ⟨q, B, X', hpost, hsteps⟩
  · exact Or.inl ⟨v, vm₁, B, X₁.warmed, X', hpost, fun target h => hstep₁ _ fun acts => by rw [doInvoke_state]; exact hsteps.trans h⟩
  · exact Or.inr ⟨q, vm₁, B, X₁.warmed, X', hpost, hstep₁ _ fun acts => by rw [doInvoke_state]; exact hsteps⟩
theorem vx_callSN (X : Stand p l e R s m args below meth c T locs cells slots) (hexec : p.tables.exec = Jvm.exec) {own : String} {index : Nat} {host : String} {y : MethodName} {bytes : ByteArray} {maxL : Nat} {ret : Option FieldType}
    (hown : s.vm.findClass own = some m.cls) (hlink : (Cond.methodLinkNest own index y host).before args s = true) (hstat : (Cond.static y).before args s = true) (hinit : (Cond.initialized y.cls).before args s = true)
    (hcode : (Cond.code y bytes maxL ret).before args s = true) (hy : y.cls ≠ "java/lang/invoke/MethodHandle" ∧ y.cls ≠ "java/lang/invoke/VarHandle")
    {W : Nat} {Pre : Pt → Array Value → Prop} {Post : Pt → Array Value → Option Value → Pt → Prop} {PostX : Pt → Array Value → Addr → Pt → Prop} (hK : vx_Back l R p e below s args y 3 W Pre Post PostX)
    {g : JFrame} (hg : g.method = m) (hsize : g.locals.size = c.maxLocals) {argsL rest : List Value} (hlen : ∀ sig, parseMethodDescriptor y.desc = some sig → argsL.length = sig.parameters.length)
    (hstack : g.stack = argsL.reverse ++ rest) (hW : 2 * g.monitorRoom + (rest.map fun v => v.category).sum ≤ W) (hdg : decode c.code g.pc = .ok (.invokestatic index, 3))
    (hpre : ∀ vm₁, s.WarmedH vm₁ → Pre ⟨T.setVm vm₁, locs, cells, slots⟩ argsL.toArray) :
    (∃ (v : Option Value) (vm₁ : Vm) (B : Pt), s.WarmedH vm₁ ∧ Stand p l e R s m args below meth c B.U B.locs B.cells B.slots ∧ Post ⟨T.setVm vm₁, locs, cells, slots⟩ argsL.toArray v B ∧
      ∀ target, Steps p.tables e below (B.U.setTop { g with pc := g.pc + 3, stack := v.toList ++ rest }) target → Steps p.tables e below (T.setTop g) target) ∨
    (∃ (q : Addr) (vm₁ : Vm) (B : Pt), s.WarmedH vm₁ ∧ Stand p l e R s m args below meth c B.U B.locs B.cells B.slots ∧ PostX ⟨T.setVm vm₁, locs, cells, slots⟩ argsL.toArray q B ∧
      Steps p.tables e below (T.setTop g) ((B.U.setTop { g with stack := rest }).pushFrame (.throwing q))) := by
  obtain ⟨mk, hnamed⟩ := Cond.code_named hcode
  obtain ⟨methM, cM, hmethM, -, -, -, -, -, -, hsigM⟩ := Cond.code_spec hnamed hcode
  have hstatic : methM.isStatic = true := Cond.static_spec hnamed hmethM hstat
  obtain ⟨kP, hkP, -⟩ := className_of_methodNamed hnamed
  have hinitP : kP.init = .initialized := Cond.initialized_spec (findClass_of_methodNamed hnamed) hkP hinit
  obtain ⟨vm₁, X₁, hstep₁⟩ := X.invokestaticNest hexec hown hlink hnamed hmethM hstatic hkP hinitP hy (g := g) hg (argsL := argsL) (rest := rest) (hlen _ hsigM) hstack hdg
  rcases hK m meth c ⟨T.setVm vm₁, locs, cells, slots⟩ { g with stack := rest } (.invokestatic index) mk argsL.toArray X₁ hg hsize hdg hW (X₁.named hnamed) (hpre vm₁ X₁.warmed) with ⟨v, B, X', hpost, hsteps⟩ | ⟨q, B, X', hpost, hsteps⟩
  · exact Or.inl ⟨v, vm₁, B, X₁.warmed, X', hpost, fun target h => hstep₁ _ fun acts => by rw [doInvoke_state]; exact hsteps.trans h⟩
  · exact Or.inr ⟨q, vm₁, B, X₁.warmed, X', hpost, hstep₁ _ fun acts => by rw [doInvoke_state]; exact hsteps⟩
theorem vx_runVN {y : MethodName} {bytes cc : ByteArray} {maxL nL mc ms n index : Nat} {ret : Option FieldType} {ws : List Cond} {rm : Room} {Pc : Array Value → State → Prop} {Qc : Array Value → State → Outcome → State → Prop} {XC : String → State → State → Prop} {free : Addr → Prop} {Ts : List Cond} {own C host : String} {b : Addr} {As rest : List Value} {g : JFrame}
    (S : CallFix p m c cc nL s args Ts own) (hM : vx_Met l y ws rm Pc Qc XC mc ms free) (cw : va_CN R s args own index y host bytes maxL ret ws rm mc ms n ∧ (Cond.instanceMethod y).before args s = true ∧ (Cond.selects C y y).before args s = true) (hp : PreV s H C b Pc As)
    (hg : g.method = m) (hn : As.length = n) (hsize : g.locals.size = nL) (hstack : g.stack = As.reverse ++ .ref b :: rest) (hW : 2 * g.monitorRoom + (rest.map fun v => v.category).sum ≤ 8) (hdg : decode cc g.pc = .ok (.invokevirtual index, 3)) (hf : cells + mc ≤ R.cells ∧ slots + ms ≤ R.slots) :
    vx_Run p l e R s m args below meth c H locs cells slots mc ms g rest (Qc (Value.ref b :: As).toArray) XC free := by
  obtain ⟨⟨⟨hrc, hrs, hfr, hlo, hws, hcw⟩, hcode, hini, hy, hlen, hl⟩, hx1, hx2⟩ := cw
  have hK : vx_Back l R p e below s args y 3 8 (PreOf R mc ms Pc) (PostOf Qc mc ms free) (vx_Post XC mc ms free) := vx_back (bytes := bytes) (maxL := maxL) (ret := ret) hM hp.1 hrc hrs hfr hlo hws hcw (fun a' U hW => word_at hW (Or.inl (by first | rfl | simp [Cond.onTables, Cond.keeps, Cond.steady])) hini)
  obtain ⟨hx, hb, hml, ho, -⟩ := S
  obtain ⟨-, ⟨cellB, hcB, hoB, hclB⟩, hPc⟩ := hp
  intro T hT X
  rcases vx_callVN X hx (C := C) (bytes := bytes) (maxL := maxL) (ret := ret) ho hl hx1 hx2 hcode hy hK (by rw [hT]; exact hcB) hoB hclB hg (hsize.trans hml.symm) (argsL := As) (rest := rest) (fun sig h => hn.trans (hlen sig h)) hstack hW (by rw [hb]; exact hdg)
    (fun vm₁ hW₁ => ⟨hf.1, hf.2, hPc (T.setVm vm₁) hT hW₁⟩) with ⟨v, vm₁, ⟨U', l2, c2, s2⟩, hW₁, X', ⟨g', mk, t, L, e1, e2, hq, h1, hL, h2, h3⟩, st⟩ | ⟨q, vm₁, ⟨U', l2, c2, s2⟩, hW₁, X', ⟨g', mk, t, L, E, ce, e1, e2, hq, hce, hcv, hcl, h1, hL, h2, h3⟩, st⟩
  · dsimp only [Pt.U, Pt.locs, Pt.cells, Pt.slots] at X' e1 e2 h1 h2 h3 st
    subst h1; subst h2; subst h3
    exact Or.inl ⟨v, (T.setVm vm₁).calling g' mk (Value.ref b :: As).toArray, t, U', L, hT, X', hL, e1, e2, hq, st⟩
  · dsimp only [Pt.U, Pt.locs, Pt.cells, Pt.slots] at X' e1 e2 h1 h2 h3 st hcl
    subst h1; subst h2; subst h3
    exact Or.inr ⟨q, (T.setVm vm₁).calling g' mk (Value.ref b :: As).toArray, t, U', L, E, ce, hT, X', hL, e1, e2, hq, hce, hcv, vx_cls hW₁ hcl, st⟩
theorem vx_runSN {y : MethodName} {bytes cc : ByteArray} {maxL nL mc ms n index : Nat} {ret : Option FieldType} {ws : List Cond} {rm : Room} {Pc : Array Value → State → Prop} {Qc : Array Value → State → Outcome → State → Prop} {XC : String → State → State → Prop} {free : Addr → Prop} {Ts : List Cond} {own host : String} {As rest : List Value} {g : JFrame}
    (S : CallFix p m c cc nL s args Ts own) (hM : vx_Met l y ws rm Pc Qc XC mc ms free) (cw : va_CN R s args own index y host bytes maxL ret ws rm mc ms n ∧ (Cond.static y).before args s = true ∧ True) (hp : PreS s H Pc As)
    (hg : g.method = m) (hn : As.length = n) (hsize : g.locals.size = nL) (hstack : g.stack = As.reverse ++ rest) (hW : 2 * g.monitorRoom + (rest.map fun v => v.category).sum ≤ 8) (hdg : decode cc g.pc = .ok (.invokestatic index, 3)) (hf : cells + mc ≤ R.cells ∧ slots + ms ≤ R.slots) :
    vx_Run p l e R s m args below meth c H locs cells slots mc ms g rest (Qc As.toArray) XC free := by
  obtain ⟨⟨⟨hrc, hrs, hfr, hlo, hws, hcw⟩, hcode, hini, hy, hlen, hl⟩, hx1, hx2⟩ := cw
  have hK : vx_Back l R p e below s args y 3 8 (PreOf R mc ms Pc) (PostOf Qc mc ms free) (vx_Post XC mc ms free) := vx_back (bytes := bytes) (maxL := maxL) (ret := ret) hM hp.1 hrc hrs hfr hlo hws hcw (fun a' U hW => word_at hW (Or.inl (by first | rfl | simp [Cond.onTables, Cond.keeps, Cond.steady])) hini)
  obtain ⟨hx, hb, hml, ho, -⟩ := S
  have hPc := hp.2
  intro T hT X
  rcases vx_callSN X hx (bytes := bytes) (maxL := maxL) (ret := ret) ho hl hx1 hini hcode hy hK hg (hsize.trans hml.symm) (argsL := As) (rest := rest) (fun sig h => hn.trans (hlen sig h)) hstack hW (by rw [hb]; exact hdg)
    (fun vm₁ hW₁ => ⟨hf.1, hf.2, hPc (T.setVm vm₁) hT hW₁⟩) with ⟨v, vm₁, ⟨U', l2, c2, s2⟩, hW₁, X', ⟨g', mk, t, L, e1, e2, hq, h1, hL, h2, h3⟩, st⟩ | ⟨q, vm₁, ⟨U', l2, c2, s2⟩, hW₁, X', ⟨g', mk, t, L, E, ce, e1, e2, hq, hce, hcv, hcl, h1, hL, h2, h3⟩, st⟩
  · dsimp only [Pt.U, Pt.locs, Pt.cells, Pt.slots] at X' e1 e2 h1 h2 h3 st
    subst h1; subst h2; subst h3
    exact Or.inl ⟨v, (T.setVm vm₁).calling g' mk As.toArray, t, U', L, hT, X', hL, e1, e2, hq, st⟩
  · dsimp only [Pt.U, Pt.locs, Pt.cells, Pt.slots] at X' e1 e2 h1 h2 h3 st hcl
    subst h1; subst h2; subst h3
    exact Or.inr ⟨q, (T.setVm vm₁).calling g' mk As.toArray, t, U', L, E, ce, hT, X', hL, e1, e2, hq, hce, hcv, vx_cls hW₁ hcl, st⟩
end
/-! ===== END ===== -/
/-! ===== BEGIN calls by an interface of methods that may throw (vx_callIF, vx_runF follow va_callIF, va_runF of this kit) ===== -/
section
variable {p : Program} {l : Launch} {e : Env} {R : Room} {s : State} {m : MethodId} {args : Array Value} {below : List Frame} {meth : Method} {c : Code} {H : Heap} {locs : List Loc} {cells slots : Nat} {Q : State → Prop}
variable {mc ms : Nat} {free : Addr → Prop} {A0 A1 : Nat → Prop} {H0 : Heap} {a : Array Value} {pc : Nat} {ls : Array Slot} {st0 rest : List Value}
def vx_Run5 (p : Program) (l : Launch) (e : Env) (R : Room) (s : State) (m : MethodId) (args : Array Value) (below : List Frame) (meth : Method) (c : Code) (H : Heap) (locs : List Loc) (cells slots mc ms : Nat) (g : JFrame) (rest : List Value) (Qa : State → Outcome → State → Prop) (XC : String → State → State → Prop) (free : Addr → Prop) : Prop :=
  ∀ T : State, T.heap = H → Stand p l e R s m args below meth c T locs cells slots →
    (∃ (v : Option Value) (st₀ t T' : State) (L : List Loc), st₀.heap = H ∧ Stand p l e R s m args below meth c T' (locs ++ L) (cells + mc) (slots + ms) ∧ (∀ q ∈ L, free q.base) ∧ T'.heap = t.heap ∧ T'.vm = t.vm ∧ Qa st₀ (.returned v) t ∧
      Goes p e below T g T' { g with pc := g.pc + 5, stack := v.toList ++ rest }) ∨
    (∃ (q : Addr) (st₀ t T' : State) (L : List Loc) (E : String) (ce : Cell), st₀.heap = H ∧ Stand p l e R s m args below meth c T' (locs ++ L) (cells + mc) (slots + ms) ∧ (∀ z ∈ L, free z.base) ∧ T'.heap = t.heap ∧ T'.vm = t.vm ∧ XC E st₀ t ∧ t.heap[q]? = some ce ∧ ce.vm = .none ∧ s.vm.findClass E = some ce.cls ∧
      Steps p.tables e below (T.setTop g) ((T'.setTop { g with stack := rest }).pushFrame (.throwing q)))
theorem vx_callIF {T : State} (X : Stand p l e R s m args below meth c T locs cells slots) (hexec : p.tables.exec = Jvm.exec) {own C : String} {index count : Nat} {x y : MethodName} {bytes : ByteArray} {maxL : Nat} {ret : Option FieldType}
    (hown : s.vm.findClass own = some m.cls) (hlink : (Cond.methodLink own index x).before args s = true) (hdecl : (Cond.declares x).before args s = true) (hface : (Cond.interfaceMethod x.cls x.cls x.name x.desc).before args s = true)
    (hsel : (Cond.selects C x y).before args s = true) (hinst : (Cond.instanceMethod y).before args s = true) (hpub : (Cond.publicMethod y).before args s = true) (hunh : (Cond.unhidden C x.name x.desc).before args s = true)
    (hcast : (Cond.castable C x.cls).before args s = true) (hcode : (Cond.code y bytes maxL ret).before args s = true) (hx : x.cls ≠ "java/lang/invoke/MethodHandle" ∧ x.cls ≠ "java/lang/invoke/VarHandle")
    {W9 : Nat} {Pre : Pt → Array Value → Prop} {Post : Pt → Array Value → Option Value → Pt → Prop} {PostX : Pt → Array Value → Addr → Pt → Prop} (hK : vx_Back l R p e below s args y 5 W9 Pre Post PostX)
    {b : Addr} {cellB : Cell} {kB : Class} (hcell : T.heap[b]? = some cellB) (hobj : cellB.vm.isStatics = false) (hcls : s.vm.findClass C = some cellB.cls) (hkB : s.vm.classes[cellB.cls]? = some kB)
    {g : JFrame} (hg : g.method = m) (hsize : g.locals.size = c.maxLocals) {argsL rest : List Value} (hlen : ∀ sig, parseMethodDescriptor x.desc = some sig → argsL.length = sig.parameters.length)
    (hstack : g.stack = argsL.reverse ++ .ref b :: rest) (hW : 2 * g.monitorRoom + (rest.map fun v => v.category).sum ≤ W9) (hdg : decode c.code g.pc = .ok (.invokeinterface index count, 5))
    (hpre : ∀ vm₁, s.WarmedH vm₁ → Pre ⟨T.setVm vm₁, locs, cells, slots⟩ (Value.ref b :: argsL).toArray) :
    (∃ (v : Option Value) (vm₁ : Vm) (B : Pt), s.WarmedH vm₁ ∧ Stand p l e R s m args below meth c B.U B.locs B.cells B.slots ∧ Post ⟨T.setVm vm₁, locs, cells, slots⟩ (Value.ref b :: argsL).toArray v B ∧
      ∀ target, Steps p.tables e below (B.U.setTop { g with pc := g.pc + 5, stack := v.toList ++ rest }) target → Steps p.tables e below (T.setTop g) target) ∨
    (∃ (q : Addr) (vm₁ : Vm) (B : Pt), s.WarmedH vm₁ ∧ Stand p l e R s m args below meth c B.U B.locs B.cells B.slots ∧ PostX ⟨T.setVm vm₁, locs, cells, slots⟩ (Value.ref b :: argsL).toArray q B ∧
      Steps p.tables e below (T.setTop g) ((B.U.setTop { g with stack := rest }).pushFrame (.throwing q))) := by
  obtain ⟨r0, r, hn, hrm, hstR, hsigR⟩ := Cond.declares_spec hdecl
  obtain ⟨cL, kL, r1, hcL, hkL, hiL, hfoundL, hn1⟩ := Cond.interfaceMethod_spec hface
  cases hn.symm.trans hn1
  have hr0cls : r0.cls = cL := Option.some.inj ((findClass_of_methodNamed hn).symm.trans hcL)
  obtain ⟨hnameR, hdescR⟩ := name_of_methodNamed hn hrm
  obtain ⟨mk, methM, hnamed, hmethM, -, habM⟩ := Cond.instanceMethod_spec hinst
  obtain ⟨c2, r2, m2, q1, q2, q3, q4, -⟩ := Cond.selects_spec hsel
  cases hcls.symm.trans q1
  cases hfoundL.symm.trans q2
  cases hnamed.symm.trans q3
  have hselP : selectMethod e.platform s.vm cellB.cls r0 = .method mk := by rw [Launch.admits_selectMethod X.admits]; exact q4
  have hpubM : hasFlag methM.accessFlags Acc.public_ = true := Cond.publicMethod_spec hnamed hmethM hpub
  have hway : ((cellB.cls :: s.vm.superclasses cellB.cls).any fun k => (declaredIn s.vm r.name r.desc k).any fun (_, z) => z.isPrivate || z.isStatic) = false := by
    rw [hnameR, hdescR]; exact Cond.unhidden_spec hcls hunh
  obtain ⟨c3, t3, w1, w2, w3⟩ := Cond.castable_spec hcast
  cases hcls.symm.trans w1
  cases hcL.symm.trans w2
  obtain ⟨vm₁, X₁, hstep₁⟩ := X.invokeinterface hexec hown hlink hn hrm hstR (by rw [hr0cls]; exact hkL) hiL hx (a := b) (cell := cellB) (kcell := kB) hcell
    (fun z h => by rw [h] at hobj; cases hobj) hkB (by rw [hr0cls]; exact w3) hselP hmethM hway hpubM habM (g := g) hg (argsL := argsL) (rest := rest) (hlen _ hsigR) hstack hdg
  rcases hK m meth c ⟨T.setVm vm₁, locs, cells, slots⟩ { g with stack := rest } (.invokeinterface index count) mk (Value.ref b :: argsL).toArray X₁ hg hsize hdg hW (X₁.named hnamed) (hpre vm₁ X₁.warmed) with ⟨v, B, X', hpost, hsteps⟩ | ⟨q, B, X', hpost, hsteps⟩
  · exact Or.inl ⟨v, vm₁, B, X₁.warmed, X', hpost, fun target h => hstep₁ _ fun acts => by rw [doInvoke_state]; exact hsteps.trans h⟩
  · exact Or.inr ⟨q, vm₁, B, X₁.warmed, X', hpost, hstep₁ _ fun acts => by rw [doInvoke_state]; exact hsteps⟩
theorem vx_runF {x y : MethodName} {bytes cc : ByteArray} {maxL nL mc ms n index count : Nat} {ret : Option FieldType} {ws : List Cond} {rm : Room} {Pc : Array Value → State → Prop} {Qc : Array Value → State → Outcome → State → Prop} {XC : String → State → State → Prop} {free : Addr → Prop} {Ts : List Cond} {own C : String} {cC : ClassId} {b : Addr} {As rest : List Value} {g : JFrame}
    (hat : ClassAt s C cC) (S : CallFix p m c cc nL s args Ts own) (hM : vx_Met l y ws rm Pc Qc XC mc ms free) (cw : va_CI R s args own C index x y bytes maxL ret ws rm mc ms n) (hp : PreV s H C b Pc As)
    (hg : g.method = m) (hn : As.length = n) (hsize : g.locals.size = nL) (hstack : g.stack = As.reverse ++ .ref b :: rest) (hW : 2 * g.monitorRoom + (rest.map fun v => v.category).sum ≤ 8) (hdg : decode cc g.pc = .ok (.invokeinterface index count, 5)) (hf : cells + mc ≤ R.cells ∧ slots + ms ≤ R.slots) :
    vx_Run5 p l e R s m args below meth c H locs cells slots mc ms g rest (Qc (Value.ref b :: As).toArray) XC free := by
  obtain ⟨hrc, hrs, hfr, hlo, hws, hcw⟩ := cw.back
  have hini := cw.init
  have hK : vx_Back l R p e below s args y 5 8 (PreOf R mc ms Pc) (PostOf Qc mc ms free) (vx_Post XC mc ms free) := vx_back (bytes := bytes) (maxL := maxL) (ret := ret) hM hp.1 hrc hrs hfr hlo hws hcw (fun a' U hW => word_at hW (Or.inl (by first | rfl | simp [Cond.onTables, Cond.keeps, Cond.steady])) hini)
  obtain ⟨hx, hb, hml, ho, -⟩ := S
  obtain ⟨-, ⟨cellB, hcB, hoB, hclB⟩, hPc⟩ := hp
  obtain ⟨hfc, kB, hkB, -⟩ := hat
  cases hfc.symm.trans hclB
  intro T hT X
  rcases vx_callIF X hx (C := C) (bytes := bytes) (maxL := maxL) (ret := ret) ho cw.link cw.decl cw.face cw.sel cw.inst cw.pub cw.unh cw.cast cw.code cw.notMH hK (by rw [hT]; exact hcB) hoB hclB hkB hg (hsize.trans hml.symm) (argsL := As) (rest := rest) (fun sig h => hn.trans (cw.len sig h)) hstack hW (by rw [hb]; exact hdg)
    (fun vm₁ hW₁ => ⟨hf.1, hf.2, hPc (T.setVm vm₁) hT hW₁⟩) with ⟨v, vm₁, ⟨U', l2, c2, s2⟩, hW₁, X', ⟨g', mk, t, L, e1, e2, hq, h1, hL, h2, h3⟩, st⟩ | ⟨q, vm₁, ⟨U', l2, c2, s2⟩, hW₁, X', ⟨g', mk, t, L, E, ce, e1, e2, hq, hce, hcv, hcl, h1, hL, h2, h3⟩, st⟩
  · dsimp only [Pt.U, Pt.locs, Pt.cells, Pt.slots] at X' e1 e2 h1 h2 h3 st
    subst h1; subst h2; subst h3
    exact Or.inl ⟨v, (T.setVm vm₁).calling g' mk (Value.ref b :: As).toArray, t, U', L, hT, X', hL, e1, e2, hq, st⟩
  · dsimp only [Pt.U, Pt.locs, Pt.cells, Pt.slots] at X' e1 e2 h1 h2 h3 st hcl
    subst h1; subst h2; subst h3
    exact Or.inr ⟨q, (T.setVm vm₁).calling g' mk (Value.ref b :: As).toArray, t, U', L, E, ce, hT, X', hL, e1, e2, hq, hce, hcv, vx_cls hW₁ hcl, st⟩
theorem vx_callFv {S SX : Type} {post : S → Prop} {px : SX → Prop} {B : S → State → Prop} {BX : String → SX → State → Prop} {AX : Nat → Prop} (hr : vx_Run5 p l e R s m args below meth c H locs cells slots mc ms (F0 m pc ls st0) rest (va_Qv post B A1 a) (vx_X px BX AX) free) (hS : va_S A0 H0 H locs) (hA : ∀ q, q < H.size → A1 q → A0 q) (hf : ∀ q, free q → A0 q) (hAX : ∀ q, q < H.size → AX q → A0 q)
    (kx : ∀ (E : String) (ce : Cell) (q9 : Addr) (u : SX) (t : State) (H1 : Heap) (locs1 : List Loc), t.heap = H1 → s.vm.Alike t.vm → px u → BX E u t → H.size ≤ H1.size → (∀ q : Nat, q < H.size → ¬ AX q → H1[q]? = H[q]?) → va_S A0 H0 H1 locs1 → H1[q9]? = some ce → ce.vm = .none → s.vm.findClass E = some ce.cls → vx_W p l e R s m args below meth c H1 locs1 (cells + mc) (slots + ms) Q (F0 m pc ls rest) q9)
    (kk : ∀ (u : S) (t : State) (H1 : Heap) (locs1 : List Loc), t.heap = H1 → s.vm.Alike t.vm → post u → B u t → H.size ≤ H1.size → (∀ q : Nat, q < H.size → ¬ A1 q → H1[q]? = H[q]?) → va_S A0 H0 H1 locs1 → W p l e R s m args below meth c H1 locs1 (cells + mc) (slots + ms) Q (F0 m (pc + 5) ls (rest))) : W p l e R s m args below meth c H locs cells slots Q (F0 m pc ls st0) := by
  intro T hT X
  rcases hr T hT X with ⟨v, st₀, t, T', L, h0, X', hL, e1, e2, ⟨⟨u, hv, hp, hb⟩, hF⟩, st⟩ | ⟨q, st₀, t, T', L, E, ce, h0, X', hL, e1, e2, ⟨u, hp, hb, hF⟩, hce, hcv, hcl, st⟩
  · cases hv
    obtain ⟨k1, k2, k3⟩ := vx_keep h0 e1 hS hA hf hL hF
    obtain ⟨t2, a1, b1⟩ := kk u t T'.heap (locs ++ L) e1.symm (by rw [← e2]; exact X'.warmed.alike) hp hb k1 k2 k3 T' rfl X'
    exact ⟨t2, st t2 a1, b1⟩
  · obtain ⟨k1, k2, k3⟩ := vx_keep h0 e1 hS hAX hf hL hF
    obtain ⟨t2, a1, b1⟩ := kx E ce q u t T'.heap (locs ++ L) e1.symm (by rw [← e2]; exact X'.warmed.alike) hp hb k1 k2 k3 (by rw [e1]; exact hce) hcv hcl T' rfl X'
    exact ⟨t2, st.trans a1, b1⟩
theorem vx_callFi {S SX : Type} {post : Int32 → S → Prop} {px : SX → Prop} {B : S → State → Prop} {BX : String → SX → State → Prop} {AX : Nat → Prop} (hr : vx_Run5 p l e R s m args below meth c H locs cells slots mc ms (F0 m pc ls st0) rest (va_Qi post B A1 a) (vx_X px BX AX) free) (hS : va_S A0 H0 H locs) (hA : ∀ q, q < H.size → A1 q → A0 q) (hf : ∀ q, free q → A0 q) (hAX : ∀ q, q < H.size → AX q → A0 q)
    (kx : ∀ (E : String) (ce : Cell) (q9 : Addr) (u : SX) (t : State) (H1 : Heap) (locs1 : List Loc), t.heap = H1 → s.vm.Alike t.vm → px u → BX E u t → H.size ≤ H1.size → (∀ q : Nat, q < H.size → ¬ AX q → H1[q]? = H[q]?) → va_S A0 H0 H1 locs1 → H1[q9]? = some ce → ce.vm = .none → s.vm.findClass E = some ce.cls → vx_W p l e R s m args below meth c H1 locs1 (cells + mc) (slots + ms) Q (F0 m pc ls rest) q9)
    (kk : ∀ (r : Int32) (u : S) (t : State) (H1 : Heap) (locs1 : List Loc), t.heap = H1 → s.vm.Alike t.vm → post r u → B u t → H.size ≤ H1.size → (∀ q : Nat, q < H.size → ¬ A1 q → H1[q]? = H[q]?) → va_S A0 H0 H1 locs1 → W p l e R s m args below meth c H1 locs1 (cells + mc) (slots + ms) Q (F0 m (pc + 5) ls (.int r :: rest))) : W p l e R s m args below meth c H locs cells slots Q (F0 m pc ls st0) := by
  intro T hT X
  rcases hr T hT X with ⟨v, st₀, t, T', L, h0, X', hL, e1, e2, ⟨⟨r, u, hv, hp, hb⟩, hF⟩, st⟩ | ⟨q, st₀, t, T', L, E, ce, h0, X', hL, e1, e2, ⟨u, hp, hb, hF⟩, hce, hcv, hcl, st⟩
  · cases hv
    obtain ⟨k1, k2, k3⟩ := vx_keep h0 e1 hS hA hf hL hF
    obtain ⟨t2, a1, b1⟩ := kk r u t T'.heap (locs ++ L) e1.symm (by rw [← e2]; exact X'.warmed.alike) hp hb k1 k2 k3 T' rfl X'
    exact ⟨t2, st t2 a1, b1⟩
  · obtain ⟨k1, k2, k3⟩ := vx_keep h0 e1 hS hAX hf hL hF
    obtain ⟨t2, a1, b1⟩ := kx E ce q u t T'.heap (locs ++ L) e1.symm (by rw [← e2]; exact X'.warmed.alike) hp hb k1 k2 k3 (by rw [e1]; exact hce) hcv hcl T' rfl X'
    exact ⟨t2, st.trans a1, b1⟩
theorem vx_callFl {S SX : Type} {post : Int64 → S → Prop} {px : SX → Prop} {B : S → State → Prop} {BX : String → SX → State → Prop} {AX : Nat → Prop} (hr : vx_Run5 p l e R s m args below meth c H locs cells slots mc ms (F0 m pc ls st0) rest (va_Ql post B A1 a) (vx_X px BX AX) free) (hS : va_S A0 H0 H locs) (hA : ∀ q, q < H.size → A1 q → A0 q) (hf : ∀ q, free q → A0 q) (hAX : ∀ q, q < H.size → AX q → A0 q)
    (kx : ∀ (E : String) (ce : Cell) (q9 : Addr) (u : SX) (t : State) (H1 : Heap) (locs1 : List Loc), t.heap = H1 → s.vm.Alike t.vm → px u → BX E u t → H.size ≤ H1.size → (∀ q : Nat, q < H.size → ¬ AX q → H1[q]? = H[q]?) → va_S A0 H0 H1 locs1 → H1[q9]? = some ce → ce.vm = .none → s.vm.findClass E = some ce.cls → vx_W p l e R s m args below meth c H1 locs1 (cells + mc) (slots + ms) Q (F0 m pc ls rest) q9)
    (kk : ∀ (r : Int64) (u : S) (t : State) (H1 : Heap) (locs1 : List Loc), t.heap = H1 → s.vm.Alike t.vm → post r u → B u t → H.size ≤ H1.size → (∀ q : Nat, q < H.size → ¬ A1 q → H1[q]? = H[q]?) → va_S A0 H0 H1 locs1 → W p l e R s m args below meth c H1 locs1 (cells + mc) (slots + ms) Q (F0 m (pc + 5) ls (.long r :: rest))) : W p l e R s m args below meth c H locs cells slots Q (F0 m pc ls st0) := by
  intro T hT X
  rcases hr T hT X with ⟨v, st₀, t, T', L, h0, X', hL, e1, e2, ⟨⟨r, u, hv, hp, hb⟩, hF⟩, st⟩ | ⟨q, st₀, t, T', L, E, ce, h0, X', hL, e1, e2, ⟨u, hp, hb, hF⟩, hce, hcv, hcl, st⟩
  · cases hv
    obtain ⟨k1, k2, k3⟩ := vx_keep h0 e1 hS hA hf hL hF
    obtain ⟨t2, a1, b1⟩ := kk r u t T'.heap (locs ++ L) e1.symm (by rw [← e2]; exact X'.warmed.alike) hp hb k1 k2 k3 T' rfl X'
    exact ⟨t2, st t2 a1, b1⟩
  · obtain ⟨k1, k2, k3⟩ := vx_keep h0 e1 hS hAX hf hL hF
    obtain ⟨t2, a1, b1⟩ := kx E ce q u t T'.heap (locs ++ L) e1.symm (by rw [← e2]; exact X'.warmed.alike) hp hb k1 k2 k3 (by rw [e1]; exact hce) hcv hcl T' rfl X'
    exact ⟨t2, st.trans a1, b1⟩
theorem vx_callFf {S SX : Type} {post : UInt32 → S → Prop} {px : SX → Prop} {B : S → State → Prop} {BX : String → SX → State → Prop} {AX : Nat → Prop} (hr : vx_Run5 p l e R s m args below meth c H locs cells slots mc ms (F0 m pc ls st0) rest (va_Qf post B A1 a) (vx_X px BX AX) free) (hS : va_S A0 H0 H locs) (hA : ∀ q, q < H.size → A1 q → A0 q) (hf : ∀ q, free q → A0 q) (hAX : ∀ q, q < H.size → AX q → A0 q)
    (kx : ∀ (E : String) (ce : Cell) (q9 : Addr) (u : SX) (t : State) (H1 : Heap) (locs1 : List Loc), t.heap = H1 → s.vm.Alike t.vm → px u → BX E u t → H.size ≤ H1.size → (∀ q : Nat, q < H.size → ¬ AX q → H1[q]? = H[q]?) → va_S A0 H0 H1 locs1 → H1[q9]? = some ce → ce.vm = .none → s.vm.findClass E = some ce.cls → vx_W p l e R s m args below meth c H1 locs1 (cells + mc) (slots + ms) Q (F0 m pc ls rest) q9)
    (kk : ∀ (r : UInt32) (u : S) (t : State) (H1 : Heap) (locs1 : List Loc), t.heap = H1 → s.vm.Alike t.vm → post r u → B u t → H.size ≤ H1.size → (∀ q : Nat, q < H.size → ¬ A1 q → H1[q]? = H[q]?) → va_S A0 H0 H1 locs1 → W p l e R s m args below meth c H1 locs1 (cells + mc) (slots + ms) Q (F0 m (pc + 5) ls (.float r :: rest))) : W p l e R s m args below meth c H locs cells slots Q (F0 m pc ls st0) := by
  intro T hT X
  rcases hr T hT X with ⟨v, st₀, t, T', L, h0, X', hL, e1, e2, ⟨⟨r, u, hv, hp, hb⟩, hF⟩, st⟩ | ⟨q, st₀, t, T', L, E, ce, h0, X', hL, e1, e2, ⟨u, hp, hb, hF⟩, hce, hcv, hcl, st⟩
  · cases hv
    obtain ⟨k1, k2, k3⟩ := vx_keep h0 e1 hS hA hf hL hF
    obtain ⟨t2, a1, b1⟩ := kk r u t T'.heap (locs ++ L) e1.symm (by rw [← e2]; exact X'.warmed.alike) hp hb k1 k2 k3 T' rfl X'
    exact ⟨t2, st t2 a1, b1⟩
  · obtain ⟨k1, k2, k3⟩ := vx_keep h0 e1 hS hAX hf hL hF
    obtain ⟨t2, a1, b1⟩ := kx E ce q u t T'.heap (locs ++ L) e1.symm (by rw [← e2]; exact X'.warmed.alike) hp hb k1 k2 k3 (by rw [e1]; exact hce) hcv hcl T' rfl X'
    exact ⟨t2, st.trans a1, b1⟩
theorem vx_callFd {S SX : Type} {post : UInt64 → S → Prop} {px : SX → Prop} {B : S → State → Prop} {BX : String → SX → State → Prop} {AX : Nat → Prop} (hr : vx_Run5 p l e R s m args below meth c H locs cells slots mc ms (F0 m pc ls st0) rest (va_Qd post B A1 a) (vx_X px BX AX) free) (hS : va_S A0 H0 H locs) (hA : ∀ q, q < H.size → A1 q → A0 q) (hf : ∀ q, free q → A0 q) (hAX : ∀ q, q < H.size → AX q → A0 q)
    (kx : ∀ (E : String) (ce : Cell) (q9 : Addr) (u : SX) (t : State) (H1 : Heap) (locs1 : List Loc), t.heap = H1 → s.vm.Alike t.vm → px u → BX E u t → H.size ≤ H1.size → (∀ q : Nat, q < H.size → ¬ AX q → H1[q]? = H[q]?) → va_S A0 H0 H1 locs1 → H1[q9]? = some ce → ce.vm = .none → s.vm.findClass E = some ce.cls → vx_W p l e R s m args below meth c H1 locs1 (cells + mc) (slots + ms) Q (F0 m pc ls rest) q9)
    (kk : ∀ (r : UInt64) (u : S) (t : State) (H1 : Heap) (locs1 : List Loc), t.heap = H1 → s.vm.Alike t.vm → post r u → B u t → H.size ≤ H1.size → (∀ q : Nat, q < H.size → ¬ A1 q → H1[q]? = H[q]?) → va_S A0 H0 H1 locs1 → W p l e R s m args below meth c H1 locs1 (cells + mc) (slots + ms) Q (F0 m (pc + 5) ls (.double r :: rest))) : W p l e R s m args below meth c H locs cells slots Q (F0 m pc ls st0) := by
  intro T hT X
  rcases hr T hT X with ⟨v, st₀, t, T', L, h0, X', hL, e1, e2, ⟨⟨r, u, hv, hp, hb⟩, hF⟩, st⟩ | ⟨q, st₀, t, T', L, E, ce, h0, X', hL, e1, e2, ⟨u, hp, hb, hF⟩, hce, hcv, hcl, st⟩
  · cases hv
    obtain ⟨k1, k2, k3⟩ := vx_keep h0 e1 hS hA hf hL hF
    obtain ⟨t2, a1, b1⟩ := kk r u t T'.heap (locs ++ L) e1.symm (by rw [← e2]; exact X'.warmed.alike) hp hb k1 k2 k3 T' rfl X'
    exact ⟨t2, st t2 a1, b1⟩
  · obtain ⟨k1, k2, k3⟩ := vx_keep h0 e1 hS hAX hf hL hF
    obtain ⟨t2, a1, b1⟩ := kx E ce q u t T'.heap (locs ++ L) e1.symm (by rw [← e2]; exact X'.warmed.alike) hp hb k1 k2 k3 (by rw [e1]; exact hce) hcv hcl T' rfl X'
    exact ⟨t2, st.trans a1, b1⟩
end
/-! ===== END ===== -/
/-! ===== BEGIN by an interface, a method with a table of its own that may throw (follows va_callIFW, va_runFW) ===== -/
section
variable {p : Program} {l : Launch} {e : Env} {R : Room} {s : State} {m : MethodId} {args : Array Value} {below : List Frame} {meth : Method} {c : Code} {H : Heap} {locs : List Loc} {cells slots : Nat}
theorem vx_callIFW {T : State} (X : Stand p l e R s m args below meth c T locs cells slots) (hexec : p.tables.exec = Jvm.exec) {own C : String} {index count : Nat} {x y : MethodName} {bytes : ByteArray} {maxL : Nat} {ret : Option FieldType} {hh : List (Nat × Nat × Nat × Nat)}
    (hown : s.vm.findClass own = some m.cls) (hlink : (Cond.methodLink own index x).before args s = true) (hdecl : (Cond.declares x).before args s = true) (hface : (Cond.interfaceMethod x.cls x.cls x.name x.desc).before args s = true)
    (hsel : (Cond.selects C x y).before args s = true) (hinst : (Cond.instanceMethod y).before args s = true) (hpub : (Cond.publicMethod y).before args s = true) (hunh : (Cond.unhidden C x.name x.desc).before args s = true)
    (hcast : (Cond.castable C x.cls).before args s = true) (hcode : (Cond.codeWith y bytes maxL ret hh).before args s = true) (hx : x.cls ≠ "java/lang/invoke/MethodHandle" ∧ x.cls ≠ "java/lang/invoke/VarHandle")
    {W : Nat} {Pre : Pt → Array Value → Prop} {Post : Pt → Array Value → Option Value → Pt → Prop} {PostX : Pt → Array Value → Addr → Pt → Prop} (hK : vx_Back l R p e below s args y 5 W Pre Post PostX)
    {b : Addr} {cellB : Cell} {kB : Class} (hcell : T.heap[b]? = some cellB) (hobj : cellB.vm.isStatics = false) (hcls : s.vm.findClass C = some cellB.cls) (hkB : s.vm.classes[cellB.cls]? = some kB)
    {g : JFrame} (hg : g.method = m) (hsize : g.locals.size = c.maxLocals) {argsL rest : List Value} (hlen : ∀ sig, parseMethodDescriptor x.desc = some sig → argsL.length = sig.parameters.length)
    (hstack : g.stack = argsL.reverse ++ .ref b :: rest) (hW : 2 * g.monitorRoom + (rest.map fun v => v.category).sum ≤ W) (hdg : decode c.code g.pc = .ok (.invokeinterface index count, 5))
    (hpre : ∀ vm₁, s.WarmedH vm₁ → Pre ⟨T.setVm vm₁, locs, cells, slots⟩ (Value.ref b :: argsL).toArray) :
    (∃ (v : Option Value) (vm₁ : Vm) (B : Pt), s.WarmedH vm₁ ∧ Stand p l e R s m args below meth c B.U B.locs B.cells B.slots ∧ Post ⟨T.setVm vm₁, locs, cells, slots⟩ (Value.ref b :: argsL).toArray v B ∧
      ∀ target, Steps p.tables e below (B.U.setTop { g with pc := g.pc + 5, stack := v.toList ++ rest }) target → Steps p.tables e below (T.setTop g) target) ∨
    (∃ (q : Addr) (vm₁ : Vm) (B : Pt), s.WarmedH vm₁ ∧ Stand p l e R s m args below meth c B.U B.locs B.cells B.slots ∧ PostX ⟨T.setVm vm₁, locs, cells, slots⟩ (Value.ref b :: argsL).toArray q B ∧
      Steps p.tables e below (T.setTop g) ((B.U.setTop { g with stack := rest }).pushFrame (.throwing q))) := by
  obtain ⟨r0, r, hn, hrm, hstR, hsigR⟩ := Cond.declares_spec hdecl
  obtain ⟨cL, kL, r1, hcL, hkL, hiL, hfoundL, hn1⟩ := Cond.interfaceMethod_spec hface
  cases hn.symm.trans hn1
  have hr0cls : r0.cls = cL := Option.some.inj ((findClass_of_methodNamed hn).symm.trans hcL)
  obtain ⟨hnameR, hdescR⟩ := name_of_methodNamed hn hrm
  obtain ⟨mk, methM, hnamed, hmethM, -, habM⟩ := Cond.instanceMethod_spec hinst
  obtain ⟨c2, r2, m2, q1, q2, q3, q4, -⟩ := Cond.selects_spec hsel
  cases hcls.symm.trans q1
  cases hfoundL.symm.trans q2
  cases hnamed.symm.trans q3
  have hselP : selectMethod e.platform s.vm cellB.cls r0 = .method mk := by rw [Launch.admits_selectMethod X.admits]; exact q4
  have hpubM : hasFlag methM.accessFlags Acc.public_ = true := Cond.publicMethod_spec hnamed hmethM hpub
  have hway : ((cellB.cls :: s.vm.superclasses cellB.cls).any fun k => (declaredIn s.vm r.name r.desc k).any fun (_, z) => z.isPrivate || z.isStatic) = false := by
    rw [hnameR, hdescR]; exact Cond.unhidden_spec hcls hunh
  obtain ⟨c3, t3, w1, w2, w3⟩ := Cond.castable_spec hcast
  cases hcls.symm.trans w1
  cases hcL.symm.trans w2
  obtain ⟨vm₁, X₁, hstep₁⟩ := X.invokeinterface hexec hown hlink hn hrm hstR (by rw [hr0cls]; exact hkL) hiL hx (a := b) (cell := cellB) (kcell := kB) hcell
    (fun z h => by rw [h] at hobj; cases hobj) hkB (by rw [hr0cls]; exact w3) hselP hmethM hway hpubM habM (g := g) hg (argsL := argsL) (rest := rest) (hlen _ hsigR) hstack hdg
  rcases hK m meth c ⟨T.setVm vm₁, locs, cells, slots⟩ { g with stack := rest } (.invokeinterface index count) mk (Value.ref b :: argsL).toArray X₁ hg hsize hdg hW (X₁.named hnamed) (hpre vm₁ X₁.warmed) with ⟨v, B, X', hpost, hsteps⟩ | ⟨q, B, X', hpost, hsteps⟩
  · exact Or.inl ⟨v, vm₁, B, X₁.warmed, X', hpost, fun target h => hstep₁ _ fun acts => by rw [doInvoke_state]; exact hsteps.trans h⟩
  · exact Or.inr ⟨q, vm₁, B, X₁.warmed, X', hpost, hstep₁ _ fun acts => by rw [doInvoke_state]; exact hsteps⟩
theorem vx_runFW {x y : MethodName} {bytes cc : ByteArray} {maxL nL mc ms n index count : Nat} {ret : Option FieldType} {hh : List (Nat × Nat × Nat × Nat)} {ws : List Cond} {rm : Room} {Pc : Array Value → State → Prop} {Qc : Array Value → State → Outcome → State → Prop} {XC : String → State → State → Prop} {free : Addr → Prop} {Ts : List Cond} {own C : String} {cC : ClassId} {b : Addr} {As rest : List Value} {g : JFrame}
    (hat : ClassAt s C cC) (S : CallFix p m c cc nL s args Ts own) (hM : vx_Met l y ws rm Pc Qc XC mc ms free) (cw : va_CIW R s args own C index x y bytes maxL ret hh ws rm mc ms n) (hp : PreV s H C b Pc As)
    (hg : g.method = m) (hn : As.length = n) (hsize : g.locals.size = nL) (hstack : g.stack = As.reverse ++ .ref b :: rest) (hW : 2 * g.monitorRoom + (rest.map fun v => v.category).sum ≤ 8) (hdg : decode cc g.pc = .ok (.invokeinterface index count, 5)) (hf : cells + mc ≤ R.cells ∧ slots + ms ≤ R.slots) :
    vx_Run5 p l e R s m args below meth c H locs cells slots mc ms g rest (Qc (Value.ref b :: As).toArray) XC free := by
  obtain ⟨hrc, hrs, hfr, hlo, hws, hcw⟩ := cw.back
  have hini := cw.init
  have hK : vx_Back l R p e below s args y 5 8 (PreOf R mc ms Pc) (PostOf Qc mc ms free) (vx_Post XC mc ms free) := vx_backW (hh := hh) (bytes := bytes) (maxL := maxL) (ret := ret) hM hp.1 hrc hrs hfr hlo hws hcw (fun a' U hW => word_at hW (Or.inl (by first | rfl | simp [Cond.onTables, Cond.keeps, Cond.steady])) hini)
  obtain ⟨hx, hb, hml, ho, -⟩ := S
  obtain ⟨-, ⟨cellB, hcB, hoB, hclB⟩, hPc⟩ := hp
  obtain ⟨hfc, kB, hkB, -⟩ := hat
  cases hfc.symm.trans hclB
  intro T hT X
  rcases vx_callIFW X hx (C := C) (hh := hh) (bytes := bytes) (maxL := maxL) (ret := ret) ho cw.link cw.decl cw.face cw.sel cw.inst cw.pub cw.unh cw.cast cw.code cw.notMH hK (by rw [hT]; exact hcB) hoB hclB hkB hg (hsize.trans hml.symm) (argsL := As) (rest := rest) (fun sig h => hn.trans (cw.len sig h)) hstack hW (by rw [hb]; exact hdg)
    (fun vm₁ hW₁ => ⟨hf.1, hf.2, hPc (T.setVm vm₁) hT hW₁⟩) with ⟨v, vm₁, ⟨U', l2, c2, s2⟩, hW₁, X', ⟨g', mk, t, L, e1, e2, hq, h1, hL, h2, h3⟩, st⟩ | ⟨q, vm₁, ⟨U', l2, c2, s2⟩, hW₁, X', ⟨g', mk, t, L, E, ce, e1, e2, hq, hce, hcv, hcl, h1, hL, h2, h3⟩, st⟩
  · dsimp only [Pt.U, Pt.locs, Pt.cells, Pt.slots] at X' e1 e2 h1 h2 h3 st
    subst h1; subst h2; subst h3
    exact Or.inl ⟨v, (T.setVm vm₁).calling g' mk (Value.ref b :: As).toArray, t, U', L, hT, X', hL, e1, e2, hq, st⟩
  · dsimp only [Pt.U, Pt.locs, Pt.cells, Pt.slots] at X' e1 e2 h1 h2 h3 st hcl
    subst h1; subst h2; subst h3
    exact Or.inr ⟨q, (T.setVm vm₁).calling g' mk (Value.ref b :: As).toArray, t, U', L, E, ce, hT, X', hL, e1, e2, hq, hce, hcv, vx_cls hW₁ hcl, st⟩
end
/-! ===== END ===== -/
/-! ===== BEGIN .. of methods that hand back an object of the pool ===== -/
section
variable {p : Program} {l : Launch} {e : Env} {R : Room} {s : State} {m : MethodId} {args : Array Value} {below : List Frame} {meth : Method} {c : Code} {H : Heap} {locs : List Loc} {cells slots : Nat} {Q : State → Prop}
variable {mc ms : Nat} {free : Addr → Prop} {A0 A1 : Nat → Prop} {H0 : Heap} {a : Array Value} {pc : Nat} {ls : Array Slot} {st0 rest : List Value}
theorem vx_callq {S SX : Type} {post : Option Nat → S → Prop} {px : SX → Prop} {B : S → State → Prop} {BX : String → SX → State → Prop} {AX : Nat → Prop} (hr : vx_Run p l e R s m args below meth c H locs cells slots mc ms (F0 m pc ls st0) rest (va_Qq post B A1 a) (vx_X px BX AX) free) (hS : va_S A0 H0 H locs) (hA : ∀ q, q < H.size → A1 q → A0 q) (hf : ∀ q, free q → A0 q) (hAX : ∀ q, q < H.size → AX q → A0 q)
    (kx : ∀ (E : String) (ce : Cell) (q9 : Addr) (u : SX) (t : State) (H1 : Heap) (locs1 : List Loc), t.heap = H1 → s.vm.Alike t.vm → px u → BX E u t → H.size ≤ H1.size → (∀ q : Nat, q < H.size → ¬ AX q → H1[q]? = H[q]?) → va_S A0 H0 H1 locs1 → H1[q9]? = some ce → ce.vm = .none → s.vm.findClass E = some ce.cls → vx_W p l e R s m args below meth c H1 locs1 (cells + mc) (slots + ms) Q (F0 m pc ls rest) q9)
    (kk : ∀ (r : Option Nat) (u : S) (t : State) (H1 : Heap) (locs1 : List Loc), t.heap = H1 → s.vm.Alike t.vm → post r u → B u t → H.size ≤ H1.size → (∀ q : Nat, q < H.size → ¬ A1 q → H1[q]? = H[q]?) → va_S A0 H0 H1 locs1 → W p l e R s m args below meth c H1 locs1 (cells + mc) (slots + ms) Q (F0 m (pc + 3) ls (va_rf r :: rest))) : W p l e R s m args below meth c H locs cells slots Q (F0 m pc ls st0) := by
  intro T hT X
  rcases hr T hT X with ⟨v, st₀, t, T', L, h0, X', hL, e1, e2, ⟨⟨r, u, hv, hp, hb⟩, hF⟩, st⟩ | ⟨q, st₀, t, T', L, E, ce, h0, X', hL, e1, e2, ⟨u, hp, hb, hF⟩, hce, hcv, hcl, st⟩
  · cases hv
    obtain ⟨k1, k2, k3⟩ := vx_keep h0 e1 hS hA hf hL hF
    obtain ⟨t2, a1, b1⟩ := kk r u t T'.heap (locs ++ L) e1.symm (by rw [← e2]; exact X'.warmed.alike) hp hb k1 k2 k3 T' rfl X'
    exact ⟨t2, st t2 a1, b1⟩
  · obtain ⟨k1, k2, k3⟩ := vx_keep h0 e1 hS hAX hf hL hF
    obtain ⟨t2, a1, b1⟩ := kx E ce q u t T'.heap (locs ++ L) e1.symm (by rw [← e2]; exact X'.warmed.alike) hp hb k1 k2 k3 (by rw [e1]; exact hce) hcv hcl T' rfl X'
    exact ⟨t2, st.trans a1, b1⟩
end
/-! ===== END ===== -/
/-! ===== BEGIN .. a constant ===== -/
section
variable {p : Program} {l : Launch} {e : Env} {R : Room} {s : State} {m : MethodId} {args : Array Value} {below : List Frame} {meth : Method} {c : Code} {H : Heap} {locs : List Loc} {cells slots : Nat} {Q : State → Prop}
variable {mc ms : Nat} {free : Addr → Prop} {A0 A1 : Nat → Prop} {H0 : Heap} {a : Array Value} {pc : Nat} {ls : Array Slot} {st0 rest : List Value}
theorem vx_calle {ad : Nat → Nat} {S SX : Type} {post : Option Nat → S → Prop} {px : SX → Prop} {B : S → State → Prop} {BX : String → SX → State → Prop} {AX : Nat → Prop} (hr : vx_Run p l e R s m args below meth c H locs cells slots mc ms (F0 m pc ls st0) rest (va_Qe ad post B A1 a) (vx_X px BX AX) free) (hS : va_S A0 H0 H locs) (hA : ∀ q, q < H.size → A1 q → A0 q) (hf : ∀ q, free q → A0 q) (hAX : ∀ q, q < H.size → AX q → A0 q)
    (kx : ∀ (E : String) (ce : Cell) (q9 : Addr) (u : SX) (t : State) (H1 : Heap) (locs1 : List Loc), t.heap = H1 → s.vm.Alike t.vm → px u → BX E u t → H.size ≤ H1.size → (∀ q : Nat, q < H.size → ¬ AX q → H1[q]? = H[q]?) → va_S A0 H0 H1 locs1 → H1[q9]? = some ce → ce.vm = .none → s.vm.findClass E = some ce.cls → vx_W p l e R s m args below meth c H1 locs1 (cells + mc) (slots + ms) Q (F0 m pc ls rest) q9)
    (kk : ∀ (r : Option Nat) (u : S) (t : State) (H1 : Heap) (locs1 : List Loc), t.heap = H1 → s.vm.Alike t.vm → post r u → B u t → H.size ≤ H1.size → (∀ q : Nat, q < H.size → ¬ A1 q → H1[q]? = H[q]?) → va_S A0 H0 H1 locs1 → W p l e R s m args below meth c H1 locs1 (cells + mc) (slots + ms) Q (F0 m (pc + 3) ls (va_re ad r :: rest))) : W p l e R s m args below meth c H locs cells slots Q (F0 m pc ls st0) := by
  intro T hT X
  rcases hr T hT X with ⟨v, st₀, t, T', L, h0, X', hL, e1, e2, ⟨⟨r, u, hv, hp, hb⟩, hF⟩, st⟩ | ⟨q, st₀, t, T', L, E, ce, h0, X', hL, e1, e2, ⟨u, hp, hb, hF⟩, hce, hcv, hcl, st⟩
  · cases hv
    obtain ⟨k1, k2, k3⟩ := vx_keep h0 e1 hS hA hf hL hF
    obtain ⟨t2, a1, b1⟩ := kk r u t T'.heap (locs ++ L) e1.symm (by rw [← e2]; exact X'.warmed.alike) hp hb k1 k2 k3 T' rfl X'
    exact ⟨t2, st t2 a1, b1⟩
  · obtain ⟨k1, k2, k3⟩ := vx_keep h0 e1 hS hAX hf hL hF
    obtain ⟨t2, a1, b1⟩ := kx E ce q u t T'.heap (locs ++ L) e1.symm (by rw [← e2]; exact X'.warmed.alike) hp hb k1 k2 k3 (by rw [e1]; exact hce) hcv hcl T' rfl X'
    exact ⟨t2, st.trans a1, b1⟩
end
/-! ===== END ===== -/
/-! ===== BEGIN .. by an interface, an object ===== -/
section
variable {p : Program} {l : Launch} {e : Env} {R : Room} {s : State} {m : MethodId} {args : Array Value} {below : List Frame} {meth : Method} {c : Code} {H : Heap} {locs : List Loc} {cells slots : Nat} {Q : State → Prop}
variable {mc ms : Nat} {free : Addr → Prop} {A0 A1 : Nat → Prop} {H0 : Heap} {a : Array Value} {pc : Nat} {ls : Array Slot} {st0 rest : List Value}
theorem vx_callFq {S SX : Type} {post : Option Nat → S → Prop} {px : SX → Prop} {B : S → State → Prop} {BX : String → SX → State → Prop} {AX : Nat → Prop} (hr : vx_Run5 p l e R s m args below meth c H locs cells slots mc ms (F0 m pc ls st0) rest (va_Qq post B A1 a) (vx_X px BX AX) free) (hS : va_S A0 H0 H locs) (hA : ∀ q, q < H.size → A1 q → A0 q) (hf : ∀ q, free q → A0 q) (hAX : ∀ q, q < H.size → AX q → A0 q)
    (kx : ∀ (E : String) (ce : Cell) (q9 : Addr) (u : SX) (t : State) (H1 : Heap) (locs1 : List Loc), t.heap = H1 → s.vm.Alike t.vm → px u → BX E u t → H.size ≤ H1.size → (∀ q : Nat, q < H.size → ¬ AX q → H1[q]? = H[q]?) → va_S A0 H0 H1 locs1 → H1[q9]? = some ce → ce.vm = .none → s.vm.findClass E = some ce.cls → vx_W p l e R s m args below meth c H1 locs1 (cells + mc) (slots + ms) Q (F0 m pc ls rest) q9)
    (kk : ∀ (r : Option Nat) (u : S) (t : State) (H1 : Heap) (locs1 : List Loc), t.heap = H1 → s.vm.Alike t.vm → post r u → B u t → H.size ≤ H1.size → (∀ q : Nat, q < H.size → ¬ A1 q → H1[q]? = H[q]?) → va_S A0 H0 H1 locs1 → W p l e R s m args below meth c H1 locs1 (cells + mc) (slots + ms) Q (F0 m (pc + 5) ls (va_rf r :: rest))) : W p l e R s m args below meth c H locs cells slots Q (F0 m pc ls st0) := by
  intro T hT X
  rcases hr T hT X with ⟨v, st₀, t, T', L, h0, X', hL, e1, e2, ⟨⟨r, u, hv, hp, hb⟩, hF⟩, st⟩ | ⟨q, st₀, t, T', L, E, ce, h0, X', hL, e1, e2, ⟨u, hp, hb, hF⟩, hce, hcv, hcl, st⟩
  · cases hv
    obtain ⟨k1, k2, k3⟩ := vx_keep h0 e1 hS hA hf hL hF
    obtain ⟨t2, a1, b1⟩ := kk r u t T'.heap (locs ++ L) e1.symm (by rw [← e2]; exact X'.warmed.alike) hp hb k1 k2 k3 T' rfl X'
    exact ⟨t2, st t2 a1, b1⟩
  · obtain ⟨k1, k2, k3⟩ := vx_keep h0 e1 hS hAX hf hL hF
    obtain ⟨t2, a1, b1⟩ := kx E ce q u t T'.heap (locs ++ L) e1.symm (by rw [← e2]; exact X'.warmed.alike) hp hb k1 k2 k3 (by rw [e1]; exact hce) hcv hcl T' rfl X'
    exact ⟨t2, st.trans a1, b1⟩
end
/-! ===== END ===== -/
/-! ===== BEGIN .. by an interface, a constant ===== -/
section
variable {p : Program} {l : Launch} {e : Env} {R : Room} {s : State} {m : MethodId} {args : Array Value} {below : List Frame} {meth : Method} {c : Code} {H : Heap} {locs : List Loc} {cells slots : Nat} {Q : State → Prop}
variable {mc ms : Nat} {free : Addr → Prop} {A0 A1 : Nat → Prop} {H0 : Heap} {a : Array Value} {pc : Nat} {ls : Array Slot} {st0 rest : List Value}
theorem vx_callFe {ad : Nat → Nat} {S SX : Type} {post : Option Nat → S → Prop} {px : SX → Prop} {B : S → State → Prop} {BX : String → SX → State → Prop} {AX : Nat → Prop} (hr : vx_Run5 p l e R s m args below meth c H locs cells slots mc ms (F0 m pc ls st0) rest (va_Qe ad post B A1 a) (vx_X px BX AX) free) (hS : va_S A0 H0 H locs) (hA : ∀ q, q < H.size → A1 q → A0 q) (hf : ∀ q, free q → A0 q) (hAX : ∀ q, q < H.size → AX q → A0 q)
    (kx : ∀ (E : String) (ce : Cell) (q9 : Addr) (u : SX) (t : State) (H1 : Heap) (locs1 : List Loc), t.heap = H1 → s.vm.Alike t.vm → px u → BX E u t → H.size ≤ H1.size → (∀ q : Nat, q < H.size → ¬ AX q → H1[q]? = H[q]?) → va_S A0 H0 H1 locs1 → H1[q9]? = some ce → ce.vm = .none → s.vm.findClass E = some ce.cls → vx_W p l e R s m args below meth c H1 locs1 (cells + mc) (slots + ms) Q (F0 m pc ls rest) q9)
    (kk : ∀ (r : Option Nat) (u : S) (t : State) (H1 : Heap) (locs1 : List Loc), t.heap = H1 → s.vm.Alike t.vm → post r u → B u t → H.size ≤ H1.size → (∀ q : Nat, q < H.size → ¬ A1 q → H1[q]? = H[q]?) → va_S A0 H0 H1 locs1 → W p l e R s m args below meth c H1 locs1 (cells + mc) (slots + ms) Q (F0 m (pc + 5) ls (va_re ad r :: rest))) : W p l e R s m args below meth c H locs cells slots Q (F0 m pc ls st0) := by
  intro T hT X
  rcases hr T hT X with ⟨v, st₀, t, T', L, h0, X', hL, e1, e2, ⟨⟨r, u, hv, hp, hb⟩, hF⟩, st⟩ | ⟨q, st₀, t, T', L, E, ce, h0, X', hL, e1, e2, ⟨u, hp, hb, hF⟩, hce, hcv, hcl, st⟩
  · cases hv
    obtain ⟨k1, k2, k3⟩ := vx_keep h0 e1 hS hA hf hL hF
    obtain ⟨t2, a1, b1⟩ := kk r u t T'.heap (locs ++ L) e1.symm (by rw [← e2]; exact X'.warmed.alike) hp hb k1 k2 k3 T' rfl X'
    exact ⟨t2, st t2 a1, b1⟩
  · obtain ⟨k1, k2, k3⟩ := vx_keep h0 e1 hS hAX hf hL hF
    obtain ⟨t2, a1, b1⟩ := kx E ce q u t T'.heap (locs ++ L) e1.symm (by rw [← e2]; exact X'.warmed.alike) hp hb k1 k2 k3 (by rw [e1]; exact hce) hcv hcl T' rfl X'
    exact ⟨t2, st.trans a1, b1⟩
end
/-! ===== END ===== -/
/-! ===== BEGIN what the machine throws by itself: null at a field, at athrow ===== -/
section VXM2
variable {p : Program} {l : Launch} {e : Env} {R : Room} {s : State} {m : MethodId} {args : Array Value} {below : List Frame} {meth : Method} {c : Code} {H : Heap} {locs : List Loc} {cells slots : Nat}
variable {Q : State → Prop} {cc : ByteArray} {pc : Nat} {ls : Array Slot} {rest : List Value}
theorem vx_getfN {D cl tys} {own ref C : String} {T : u_T} {N ci index : Nat} {Ts : List Cond} (hexec : p.tables.exec = Jvm.exec) (hb : c.code = cc) (hts : ∀ w ∈ Ts, w.before args s = true) (hin : ∀ w ∈ u_ws C T N, w ∈ Ts) (hown : s.vm.findClass own = some m.cls) (hK : va_K D cl tys s) (hc : cl[ci]? = some (C, T, N)) (k : Nat) (hk : k < N) (hlink : (Cond.fieldLink own index ref (T k).2.1 (T k).2.2.1).before args s = true) (hsame : ∀ x, s.fieldFound? (T k).1 (T k).2.1 (T k).2.2.1 = some x → s.fieldFound? ref (T k).2.1 (T k).2.2.1 = some x) (hdg : decode cc pc = .ok (.getfield index, 3)) (kk : vx_NoteN p l e R s m args below meth c H locs cells slots Q (F0 m pc ls rest)) : W p l e R s m args below meth c H locs cells slots Q (F0 m pc ls (.null :: rest)) := by
  obtain ⟨hS, hfc, kC, hkC, -⟩ := hK.1 ci _ hc
  obtain ⟨cf, kf, fi, f, hi, -⟩ := hS k hk
  intro U hU X
  obtain ⟨vm', X1, st1⟩ := X.getfieldNull hexec hown hlink (hsame _ hi) (u_facts hfc hkC (u_lays hts hin hk) hi).1 (g := F0 m pc ls (.null :: rest)) rfl (rest := rest) rfl (by rw [hb]; exact hdg)
  obtain ⟨t, st, q⟩ := kk (U.setVm vm') hU X1
  exact ⟨t, st1 t st, q⟩
theorem vx_getfNN {D cl tys} {own ref C host : String} {T : u_T} {N ci index : Nat} {Ts : List Cond} (hexec : p.tables.exec = Jvm.exec) (hb : c.code = cc) (hts : ∀ w ∈ Ts, w.before args s = true) (hin : ∀ w ∈ u_ws C T N, w ∈ Ts) (hown : s.vm.findClass own = some m.cls) (hK : va_K D cl tys s) (hc : cl[ci]? = some (C, T, N)) (k : Nat) (hk : k < N) (hlink : (Cond.fieldLinkNest own index ref (T k).2.1 (T k).2.2.1 host).before args s = true) (hsame : ∀ x, s.fieldFound? (T k).1 (T k).2.1 (T k).2.2.1 = some x → s.fieldFound? ref (T k).2.1 (T k).2.2.1 = some x) (hdg : decode cc pc = .ok (.getfield index, 3)) (kk : vx_NoteN p l e R s m args below meth c H locs cells slots Q (F0 m pc ls rest)) : W p l e R s m args below meth c H locs cells slots Q (F0 m pc ls (.null :: rest)) := by
  obtain ⟨hS, hfc, kC, hkC, -⟩ := hK.1 ci _ hc
  obtain ⟨cf, kf, fi, f, hi, -⟩ := hS k hk
  intro U hU X
  obtain ⟨vm', X1, st1⟩ := X.getfieldNullNest hexec hown hlink (hsame _ hi) (u_facts hfc hkC (u_lays hts hin hk) hi).1 (g := F0 m pc ls (.null :: rest)) rfl (rest := rest) rfl (by rw [hb]; exact hdg)
  obtain ⟨t, st, q⟩ := kk (U.setVm vm') hU X1
  exact ⟨t, st1 t st, q⟩
theorem vx_putfN {D cl tys} {own ref C : String} {T : u_T} {N ci index : Nat} {Ts : List Cond} (hexec : p.tables.exec = Jvm.exec) (hb : c.code = cc) (hts : ∀ w ∈ Ts, w.before args s = true) (hin : ∀ w ∈ u_ws C T N, w ∈ Ts) (hown : s.vm.findClass own = some m.cls) (hK : va_K D cl tys s) (hc : cl[ci]? = some (C, T, N)) (k : Nat) (hk : k < N) (hlink : (Cond.fieldLink own index ref (T k).2.1 (T k).2.2.1).before args s = true) (hsame : ∀ x, s.fieldFound? (T k).1 (T k).2.1 (T k).2.2.1 = some x → s.fieldFound? ref (T k).2.1 (T k).2.2.1 = some x) (hfin : (T k).2.2.2 = false) {v : Value} (hdg : decode cc pc = .ok (.putfield index, 3)) (kk : vx_NoteN p l e R s m args below meth c H locs cells slots Q (F0 m pc ls rest)) : W p l e R s m args below meth c H locs cells slots Q (F0 m pc ls (v :: .null :: rest)) := by
  obtain ⟨hS, hfc, kC, hkC, -⟩ := hK.1 ci _ hc
  obtain ⟨cf, kf, fi, f, hi, -⟩ := hS k hk
  have hlay := hts _ (hin _ (u_in_lay hk))
  unfold u_lay at hlay
  rw [if_neg (by rw [hfin]; decide)] at hlay
  obtain ⟨c9, k9, cf9, kf9, fi9, f9, -, -, hi9, hst9, hnf9, -⟩ := Cond.lays_spec hlay
  cases hi.symm.trans hi9
  intro U hU X
  obtain ⟨vm', X1, st1⟩ := X.putfieldNull hexec hown hlink (hsame _ hi) hst9 hnf9 (g := F0 m pc ls (v :: .null :: rest)) rfl (v := v) (rest := rest) rfl (by rw [hb]; exact hdg)
  obtain ⟨t, st, q⟩ := kk (U.setVm vm') hU X1
  exact ⟨t, st1 t st, q⟩
theorem vx_putfNN {D cl tys} {own ref C host : String} {T : u_T} {N ci index : Nat} {Ts : List Cond} (hexec : p.tables.exec = Jvm.exec) (hb : c.code = cc) (hts : ∀ w ∈ Ts, w.before args s = true) (hin : ∀ w ∈ u_ws C T N, w ∈ Ts) (hown : s.vm.findClass own = some m.cls) (hK : va_K D cl tys s) (hc : cl[ci]? = some (C, T, N)) (k : Nat) (hk : k < N) (hlink : (Cond.fieldLinkNest own index ref (T k).2.1 (T k).2.2.1 host).before args s = true) (hsame : ∀ x, s.fieldFound? (T k).1 (T k).2.1 (T k).2.2.1 = some x → s.fieldFound? ref (T k).2.1 (T k).2.2.1 = some x) (hfin : (T k).2.2.2 = false) {v : Value} (hdg : decode cc pc = .ok (.putfield index, 3)) (kk : vx_NoteN p l e R s m args below meth c H locs cells slots Q (F0 m pc ls rest)) : W p l e R s m args below meth c H locs cells slots Q (F0 m pc ls (v :: .null :: rest)) := by
  obtain ⟨hS, hfc, kC, hkC, -⟩ := hK.1 ci _ hc
  obtain ⟨cf, kf, fi, f, hi, -⟩ := hS k hk
  have hlay := hts _ (hin _ (u_in_lay hk))
  unfold u_lay at hlay
  rw [if_neg (by rw [hfin]; decide)] at hlay
  obtain ⟨c9, k9, cf9, kf9, fi9, f9, -, -, hi9, hst9, hnf9, -⟩ := Cond.lays_spec hlay
  cases hi.symm.trans hi9
  intro U hU X
  obtain ⟨vm', X1, st1⟩ := X.putfieldNullNest hexec hown hlink (hsame _ hi) hst9 hnf9 (g := F0 m pc ls (v :: .null :: rest)) rfl (v := v) (rest := rest) rfl (by rw [hb]; exact hdg)
  obtain ⟨t, st, q⟩ := kk (U.setVm vm') hU X1
  exact ⟨t, st1 t st, q⟩
theorem vx_athrowN (hexec : p.tables.exec = Jvm.exec) (hb : c.code = cc) (hdg : decode cc pc = .ok (.athrow, 1)) (k : vx_NoteN p l e R s m args below meth c H locs cells slots Q (F0 m pc ls rest)) : W p l e R s m args below meth c H locs cells slots Q (F0 m pc ls (.null :: rest)) := by
  intro T hT X
  obtain ⟨t, st, q⟩ := k T hT X
  exact ⟨t, X.athrowNull hexec (g := F0 m pc ls (.null :: rest)) rfl (rest := rest) rfl (by rw [hb]; exact hdg) t st, q⟩
end VXM2
/-! ===== END ===== -/
end
section
/-! names, cut out of the printed text -/
def RX0 : String := "Swarmhall$Asks"
def TX0 : u_T := fun k => match k with
  | 0 => ("Swarmhall$Asks", "blocks", "[I", true)
  | 1 => ("Swarmhall$Asks", "others", "[I", true)
  | 2 => ("Swarmhall$Asks", "count", "I", false)
  | _ => ("Swarmhall$Asks", "asked", "J", false)
def tyX0 : Nat → FieldType := fun k => match k with
  | 0 => .array .int
  | 1 => .array .int
  | 2 => .int
  | _ => .long
abbrev wsX00 : List Cond := u_ws RX0 TX0 4
theorem nmX0 : ∀ a, a < 4 → ∀ b, b < 4 → a ≠ b → (TX0 a).2.1 ≠ (TX0 b).2.1 := by decide +kernel
theorem tyX0_ok : ∀ k, k < 4 → parseFieldDescriptor (TX0 k).2.2.1 = some (tyX0 k) := by decide +kernel
abbrev cX0_init : ByteArray := prog_2_method_1_code
def yX0_init : MethodName := ⟨RX0, "<init>", "()V"⟩
abbrev cX0_clear : ByteArray := prog_2_method_2_code
def yX0_clear : MethodName := ⟨RX0, "clear", "()V"⟩
abbrev cX0_add : ByteArray := prog_2_method_3_code
def yX0_add : MethodName := ⟨RX0, "add", "(II)V"⟩
def RX1 : String := "Swarmhall$Log"
def TX1 : u_T := fun k => match k with
  | 0 => ("Swarmhall$Log", "heldAtFirst", "I", true)
  | 1 => ("Swarmhall$Log", "entries", "[I", true)
  | _ => ("Swarmhall$Log", "count", "I", false)
def tyX1 : Nat → FieldType := fun k => match k with
  | 0 => .int
  | 1 => .array .int
  | _ => .int
abbrev wsX10 : List Cond := u_ws RX1 TX1 3
theorem nmX1 : ∀ a, a < 3 → ∀ b, b < 3 → a ≠ b → (TX1 a).2.1 ≠ (TX1 b).2.1 := by decide +kernel
theorem tyX1_ok : ∀ k, k < 3 → parseFieldDescriptor (TX1 k).2.2.1 = some (tyX1 k) := by decide +kernel
abbrev cX1_init : ByteArray := prog_3_method_1_code
def yX1_init : MethodName := ⟨RX1, "<init>", "(I)V"⟩
abbrev cX1_add : ByteArray := prog_3_method_2_code
def yX1_add : MethodName := ⟨RX1, "add", "(IIZ)V"⟩
abbrev cX1_replayHeld : ByteArray := prog_3_method_3_code
def yX1_replayHeld : MethodName := ⟨RX1, "replayHeld", "()I"⟩
def RX2 : String := "Swarmhall$Peer"
def TX2 : u_T := fun k => match k with
  | 0 => ("Swarmhall$Peer", "number", "I", true)
  | 1 => ("Swarmhall$Peer", "store", "LSwarmhall$Store;", true)
  | 2 => ("Swarmhall$Peer", "log", "LSwarmhall$Log;", true)
  | 3 => ("Swarmhall$Peer", "asks", "LSwarmhall$Asks;", true)
  | 4 => ("Swarmhall$Peer", "spoiled", "I", false)
  | 5 => ("Swarmhall$Peer", "inSequence", "Z", false)
  | 6 => ("Swarmhall$Peer", "careful", "Z", false)
  | 7 => ("Swarmhall$Peer", "cameFrom", "[J", true)
  | 8 => ("Swarmhall$Peer", "gotOf", "[I", true)
  | 9 => ("Swarmhall$Peer", "strikesAgainst", "[I", true)
  | 10 => ("Swarmhall$Peer", "banned", "I", false)
  | 11 => ("Swarmhall$Peer", "doublesCome", "I", false)
  | 12 => ("Swarmhall$Peer", "shownNow", "[I", true)
  | _ => ("Swarmhall$Peer", "chosenNow", "I", false)
def tyX2 : Nat → FieldType := fun k => match k with
  | 0 => .int
  | 1 => .object "Swarmhall$Store"
  | 2 => .object "Swarmhall$Log"
  | 3 => .object "Swarmhall$Asks"
  | 4 => .int
  | 5 => .boolean
  | 6 => .boolean
  | 7 => .array .long
  | 8 => .array .int
  | 9 => .array .int
  | 10 => .int
  | 11 => .int
  | 12 => .array .int
  | _ => .int
abbrev wsX20 : List Cond := u_ws RX2 TX2 14
theorem nmX2 : ∀ a, a < 14 → ∀ b, b < 14 → a ≠ b → (TX2 a).2.1 ≠ (TX2 b).2.1 := by decide +kernel
theorem tyX2_ok : ∀ k, k < 14 → parseFieldDescriptor (TX2 k).2.2.1 = some (tyX2 k) := by decide +kernel
abbrev cX2_init : ByteArray := prog_4_method_1_code
def yX2_init : MethodName := ⟨RX2, "<init>", "(II)V"⟩
abbrev cX2_blame : ByteArray := prog_4_method_2_code
def yX2_blame : MethodName := ⟨RX2, "blame", "(I)V"⟩
abbrev cX2_forgetSenders : ByteArray := prog_4_method_3_code
def yX2_forgetSenders : MethodName := ⟨RX2, "forgetSenders", "(I)V"⟩
def RX3 : String := "Swarmhall$Store"
def TX3 : u_T := fun k => match k with
  | 0 => ("Swarmhall$Store", "held", "I", false)
  | 1 => ("Swarmhall$Store", "has", "J", false)
  | _ => ("Swarmhall$Store", "wrong", "J", false)
def tyX3 : Nat → FieldType := fun k => match k with
  | 0 => .int
  | 1 => .long
  | _ => .long
abbrev wsX30 : List Cond := u_ws RX3 TX3 3
theorem nmX3 : ∀ a, a < 3 → ∀ b, b < 3 → a ≠ b → (TX3 a).2.1 ≠ (TX3 b).2.1 := by decide +kernel
theorem tyX3_ok : ∀ k, k < 3 → parseFieldDescriptor (TX3 k).2.2.1 = some (tyX3 k) := by decide +kernel
abbrev cX3_init : ByteArray := prog_5_method_1_code
def yX3_init : MethodName := ⟨RX3, "<init>", "(I)V"⟩
abbrev cX3_take : ByteArray := prog_5_method_2_code
def yX3_take : MethodName := ⟨RX3, "take", "(IZ)Z"⟩
abbrev cX3_isComplete : ByteArray := prog_5_method_3_code
def yX3_isComplete : MethodName := ⟨RX3, "isComplete", "(I)Z"⟩
abbrev cX3_isSound : ByteArray := prog_5_method_4_code
def yX3_isSound : MethodName := ⟨RX3, "isSound", "(I)Z"⟩
abbrev cX3_settleAll : ByteArray := prog_5_method_5_code
def yX3_settleAll : MethodName := ⟨RX3, "settleAll", "()V"⟩
def RX4 : String := "Swarmhall"
def TX4 : u_T := fun k => match k with
  | 0 => ("Swarmhall", "present", "[LSwarmhall$Peer;", true)
  | 1 => ("Swarmhall", "priorities", "[I", true)
  | 2 => ("Swarmhall", "holdersAtStart", "[I", true)
  | 3 => ("Swarmhall", "joined", "I", false)
  | _ => ("Swarmhall", "roundsRun", "I", false)
def tyX4 : Nat → FieldType := fun k => match k with
  | 0 => .array (.object "Swarmhall$Peer")
  | 1 => .array .int
  | 2 => .array .int
  | 3 => .int
  | _ => .int
abbrev wsX40 : List Cond := u_ws RX4 TX4 5
theorem nmX4 : ∀ a, a < 5 → ∀ b, b < 5 → a ≠ b → (TX4 a).2.1 ≠ (TX4 b).2.1 := by decide +kernel
theorem tyX4_ok : ∀ k, k < 5 → parseFieldDescriptor (TX4 k).2.2.1 = some (tyX4 k) := by decide +kernel
abbrev cX4_init : ByteArray := prog_1_method_1_code
def yX4_init : MethodName := ⟨RX4, "<init>", "()V"⟩
abbrev cX4_join : ByteArray := prog_1_method_2_code
def yX4_join : MethodName := ⟨RX4, "join", "(Z)I"⟩
abbrev cX4_leave : ByteArray := prog_1_method_3_code
def yX4_leave : MethodName := ⟨RX4, "leave", "(I)I"⟩
abbrev cX4_setPriority : ByteArray := prog_1_method_4_code
def yX4_setPriority : MethodName := ⟨RX4, "setPriority", "(II)I"⟩
abbrev cX4_setSequence : ByteArray := prog_1_method_5_code
def yX4_setSequence : MethodName := ⟨RX4, "setSequence", "(IZ)Z"⟩
abbrev cX4_setCareful : ByteArray := prog_1_method_6_code
def yX4_setCareful : MethodName := ⟨RX4, "setCareful", "(IZ)Z"⟩
abbrev cX4_spoil : ByteArray := prog_1_method_7_code
def yX4_spoil : MethodName := ⟨RX4, "spoil", "(IIZ)Z"⟩
abbrev cX4_run : ByteArray := prog_1_method_8_code
def yX4_run : MethodName := ⟨RX4, "run", "(I)I"⟩
abbrev cX4_rounds : ByteArray := prog_1_method_9_code
def yX4_rounds : MethodName := ⟨RX4, "rounds", "()I"⟩
abbrev cX4_peers : ByteArray := prog_1_method_10_code
def yX4_peers : MethodName := ⟨RX4, "peers", "()I"⟩
abbrev cX4_holds : ByteArray := prog_1_method_11_code
def yX4_holds : MethodName := ⟨RX4, "holds", "(I)I"⟩
abbrev cX4_holdsByLog : ByteArray := prog_1_method_12_code
def yX4_holdsByLog : MethodName := ⟨RX4, "holdsByLog", "(I)I"⟩
abbrev cX4_blocks : ByteArray := prog_1_method_13_code
def yX4_blocks : MethodName := ⟨RX4, "blocks", "(II)I"⟩
abbrev cX4_holders : ByteArray := prog_1_method_14_code
def yX4_holders : MethodName := ⟨RX4, "holders", "(I)I"⟩
abbrev cX4_shown : ByteArray := prog_1_method_15_code
def yX4_shown : MethodName := ⟨RX4, "shown", "(II)I"⟩
abbrev cX4_chosen : ByteArray := prog_1_method_16_code
def yX4_chosen : MethodName := ⟨RX4, "chosen", "(I)I"⟩
abbrev cX4_got : ByteArray := prog_1_method_17_code
def yX4_got : MethodName := ⟨RX4, "got", "(II)I"⟩
abbrev cX4_doubles : ByteArray := prog_1_method_18_code
def yX4_doubles : MethodName := ⟨RX4, "doubles", "(I)I"⟩
abbrev cX4_strikes : ByteArray := prog_1_method_19_code
def yX4_strikes : MethodName := ⟨RX4, "strikes", "(II)I"⟩
abbrev cX4_isBanned : ByteArray := prog_1_method_20_code
def yX4_isBanned : MethodName := ⟨RX4, "isBanned", "(II)Z"⟩
abbrev cX4_known : ByteArray := prog_1_method_21_code
def yX4_known : MethodName := ⟨RX4, "known", "(I)LSwarmhall$Peer;"⟩
abbrev cX4_find : ByteArray := prog_1_method_22_code
def yX4_find : MethodName := ⟨RX4, "find", "(I)LSwarmhall$Peer;"⟩
abbrev cX4_checkPiece : ByteArray := prog_1_method_23_code
def yX4_checkPiece : MethodName := ⟨RX4, "checkPiece", "(I)V"⟩
abbrev cX4_countHolders : ByteArray := prog_1_method_24_code
def yX4_countHolders : MethodName := ⟨RX4, "countHolders", "(I)I"⟩
abbrev cX4_wantedPieces : ByteArray := prog_1_method_25_code
def yX4_wantedPieces : MethodName := ⟨RX4, "wantedPieces", "()I"⟩
abbrev cX4_findShown : ByteArray := prog_1_method_26_code
def yX4_findShown : MethodName := ⟨RX4, "findShown", "(LSwarmhall$Peer;LSwarmhall$Peer;)I"⟩
abbrev cX4_findRarest : ByteArray := prog_1_method_27_code
def yX4_findRarest : MethodName := ⟨RX4, "findRarest", "(II)I"⟩
abbrev cX4_findChosen : ByteArray := prog_1_method_28_code
def yX4_findChosen : MethodName := ⟨RX4, "findChosen", "(LSwarmhall$Peer;)I"⟩
abbrev cX4_findInterested : ByteArray := prog_1_method_29_code
def yX4_findInterested : MethodName := ⟨RX4, "findInterested", "(LSwarmhall$Peer;)I"⟩
abbrev cX4_findBestGiver : ByteArray := prog_1_method_30_code
def yX4_findBestGiver : MethodName := ⟨RX4, "findBestGiver", "(LSwarmhall$Peer;I)I"⟩
abbrev cX4_findNextInTurn : ByteArray := prog_1_method_31_code
def yX4_findNextInTurn : MethodName := ⟨RX4, "findNextInTurn", "(I)I"⟩
abbrev cX4_runRound : ByteArray := prog_1_method_32_code
def yX4_runRound : MethodName := ⟨RX4, "runRound", "()I"⟩
abbrev cX4_begin : ByteArray := prog_1_method_33_code
def yX4_begin : MethodName := ⟨RX4, "begin", "()V"⟩
abbrev cX4_beginShowing : ByteArray := prog_1_method_34_code
def yX4_beginShowing : MethodName := ⟨RX4, "beginShowing", "(LSwarmhall$Peer;)V"⟩
abbrev cX4_askAll : ByteArray := prog_1_method_35_code
def yX4_askAll : MethodName := ⟨RX4, "askAll", "()V"⟩
abbrev cX4_askOthers : ByteArray := prog_1_method_36_code
def yX4_askOthers : MethodName := ⟨RX4, "askOthers", "(LSwarmhall$Peer;I)V"⟩
abbrev cX4_askOne : ByteArray := prog_1_method_37_code
def yX4_askOne : MethodName := ⟨RX4, "askOne", "(LSwarmhall$Peer;LSwarmhall$Peer;J)V"⟩
abbrev cX4_findBestPiece : ByteArray := prog_1_method_38_code
def yX4_findBestPiece : MethodName := ⟨RX4, "findBestPiece", "(LSwarmhall$Peer;J)I"⟩
abbrev cX4_isBetter : ByteArray := prog_1_method_39_code
def yX4_isBetter : MethodName := ⟨RX4, "isBetter", "(LSwarmhall$Peer;II)Z"⟩
abbrev cX4_isBegun : ByteArray := prog_1_method_40_code
def yX4_isBegun : MethodName := ⟨RX4, "isBegun", "(LSwarmhall$Peer;I)Z"⟩
abbrev cX4_comeAll : ByteArray := prog_1_method_41_code
def yX4_comeAll : MethodName := ⟨RX4, "comeAll", "()I"⟩
abbrev cX4_comeTo : ByteArray := prog_1_method_42_code
def yX4_comeTo : MethodName := ⟨RX4, "comeTo", "(LSwarmhall$Peer;)I"⟩
abbrev cX4_settle : ByteArray := prog_1_method_43_code
def yX4_settle : MethodName := ⟨RX4, "settle", "(LSwarmhall$Peer;)V"⟩
abbrev cX4_isIn : ByteArray := prog_1_method_44_code
def yX4_isIn : MethodName := ⟨RX4, "isIn", "(JI)Z"⟩
abbrev cX4_single : ByteArray := prog_1_method_45_code
def yX4_single : MethodName := ⟨RX4, "single", "(I)I"⟩
abbrev cX4_blocksOfPiece : ByteArray := prog_1_method_46_code
def yX4_blocksOfPiece : MethodName := ⟨RX4, "blocksOfPiece", "(I)J"⟩
abbrev cX4_blocksOf : ByteArray := prog_1_method_47_code
def yX4_blocksOf : MethodName := ⟨RX4, "blocksOf", "(I)J"⟩
abbrev cX4_findLowest : ByteArray := prog_1_method_48_code
def yX4_findLowest : MethodName := ⟨RX4, "findLowest", "(J)I"⟩
def RX5 : String := "SwarmhallModel"
def TX5 : u_T := fun k => match k with
  | 0 => ("SwarmhallModel", "thrown", "I", false)
  | 1 => ("SwarmhallModel", "rounds", "I", false)
  | 2 => ("SwarmhallModel", "priorities", "[I", true)
  | 3 => ("SwarmhallModel", "joined", "I", false)
  | 4 => ("SwarmhallModel", "isHere", "[Z", true)
  | 5 => ("SwarmhallModel", "held", "[I", true)
  | 6 => ("SwarmhallModel", "isCareful", "[Z", true)
  | 7 => ("SwarmhallModel", "inSequence", "[Z", true)
  | 8 => ("SwarmhallModel", "spoilt", "[I", true)
  | 9 => ("SwarmhallModel", "doubles", "[I", true)
  | 10 => ("SwarmhallModel", "had", "[I", true)
  | 11 => ("SwarmhallModel", "wrong", "[I", true)
  | 12 => ("SwarmhallModel", "asked", "[I", true)
  | 13 => ("SwarmhallModel", "from", "[I", true)
  | 14 => ("SwarmhallModel", "got", "[I", true)
  | 15 => ("SwarmhallModel", "strikes", "[I", true)
  | 16 => ("SwarmhallModel", "isBanned", "[Z", true)
  | 17 => ("SwarmhallModel", "shows", "[I", true)
  | 18 => ("SwarmhallModel", "chosen", "[I", true)
  | 19 => ("SwarmhallModel", "many", "I", false)
  | 20 => ("SwarmhallModel", "askers", "[I", true)
  | 21 => ("SwarmhallModel", "sources", "[I", true)
  | _ => ("SwarmhallModel", "wanted", "[I", true)
def tyX5 : Nat → FieldType := fun k => match k with
  | 0 => .int
  | 1 => .int
  | 2 => .array .int
  | 3 => .int
  | 4 => .array .boolean
  | 5 => .array .int
  | 6 => .array .boolean
  | 7 => .array .boolean
  | 8 => .array .int
  | 9 => .array .int
  | 10 => .array .int
  | 11 => .array .int
  | 12 => .array .int
  | 13 => .array .int
  | 14 => .array .int
  | 15 => .array .int
  | 16 => .array .boolean
  | 17 => .array .int
  | 18 => .array .int
  | 19 => .int
  | 20 => .array .int
  | 21 => .array .int
  | _ => .array .int
abbrev wsX50 : List Cond := u_ws RX5 TX5 23
theorem nmX5 : ∀ a, a < 23 → ∀ b, b < 23 → a ≠ b → (TX5 a).2.1 ≠ (TX5 b).2.1 := by decide +kernel
theorem tyX5_ok : ∀ k, k < 23 → parseFieldDescriptor (TX5 k).2.2.1 = some (tyX5 k) := by decide +kernel
abbrev cX5_init : ByteArray := prog_7_method_1_code
def yX5_init : MethodName := ⟨RX5, "<init>", "()V"⟩
abbrev cX5_thrown : ByteArray := prog_7_method_2_code
def yX5_thrown : MethodName := ⟨RX5, "thrown", "()I"⟩
abbrev cX5_fits : ByteArray := prog_7_method_3_code
def yX5_fits : MethodName := ⟨RX5, "fits", "(I)Z"⟩
abbrev cX5_has : ByteArray := prog_7_method_4_code
def yX5_has : MethodName := ⟨RX5, "has", "(II)Z"⟩
abbrev cX5_isPeer : ByteArray := prog_7_method_5_code
def yX5_isPeer : MethodName := ⟨RX5, "isPeer", "(I)Z"⟩
abbrev cX5_isPiece : ByteArray := prog_7_method_6_code
def yX5_isPiece : MethodName := ⟨RX5, "isPiece", "(I)Z"⟩
abbrev cX5_at : ByteArray := prog_7_method_7_code
def yX5_at : MethodName := ⟨RX5, "at", "(II)I"⟩
abbrev cX5_pair : ByteArray := prog_7_method_8_code
def yX5_pair : MethodName := ⟨RX5, "pair", "(II)I"⟩
abbrev cX5_count : ByteArray := prog_7_method_9_code
def yX5_count : MethodName := ⟨RX5, "count", "(I)I"⟩
abbrev cX5_join : ByteArray := prog_7_method_10_code
def yX5_join : MethodName := ⟨RX5, "join", "(Z)I"⟩
abbrev cX5_leave : ByteArray := prog_7_method_11_code
def yX5_leave : MethodName := ⟨RX5, "leave", "(I)I"⟩
abbrev cX5_setPriority : ByteArray := prog_7_method_12_code
def yX5_setPriority : MethodName := ⟨RX5, "setPriority", "(II)I"⟩
abbrev cX5_setSequence : ByteArray := prog_7_method_13_code
def yX5_setSequence : MethodName := ⟨RX5, "setSequence", "(IZ)Z"⟩
abbrev cX5_setCareful : ByteArray := prog_7_method_14_code
def yX5_setCareful : MethodName := ⟨RX5, "setCareful", "(IZ)Z"⟩
abbrev cX5_spoil : ByteArray := prog_7_method_15_code
def yX5_spoil : MethodName := ⟨RX5, "spoil", "(IIZ)Z"⟩
abbrev cX5_holdersOf : ByteArray := prog_7_method_16_code
def yX5_holdersOf : MethodName := ⟨RX5, "holdersOf", "(I)I"⟩
abbrev cX5_shownBy : ByteArray := prog_7_method_17_code
def yX5_shownBy : MethodName := ⟨RX5, "shownBy", "(II)I"⟩
abbrev cX5_lackedBy : ByteArray := prog_7_method_18_code
def yX5_lackedBy : MethodName := ⟨RX5, "lackedBy", "(I)I"⟩
abbrev cX5_wants : ByteArray := prog_7_method_19_code
def yX5_wants : MethodName := ⟨RX5, "wants", "(II)Z"⟩
abbrev cX5_choiceOf : ByteArray := prog_7_method_20_code
def yX5_choiceOf : MethodName := ⟨RX5, "choiceOf", "(I)I"⟩
abbrev cX5_looks : ByteArray := prog_7_method_21_code
def yX5_looks : MethodName := ⟨RX5, "looks", "()V"⟩
abbrev cX5_isBetter : ByteArray := prog_7_method_22_code
def yX5_isBetter : MethodName := ⟨RX5, "isBetter", "(III)Z"⟩
abbrev cX5_lowest : ByteArray := prog_7_method_23_code
def yX5_lowest : MethodName := ⟨RX5, "lowest", "(I)I"⟩
abbrev cX5_hasAskedAll : ByteArray := prog_7_method_24_code
def yX5_hasAskedAll : MethodName := ⟨RX5, "hasAskedAll", "(I)Z"⟩
abbrev cX5_blockFor : ByteArray := prog_7_method_25_code
def yX5_blockFor : MethodName := ⟨RX5, "blockFor", "(II)I"⟩
abbrev cX5_asks : ByteArray := prog_7_method_26_code
def yX5_asks : MethodName := ⟨RX5, "asks", "()V"⟩
abbrev cX5_comes : ByteArray := prog_7_method_27_code
def yX5_comes : MethodName := ⟨RX5, "comes", "()I"⟩
abbrev cX5_drops : ByteArray := prog_7_method_28_code
def yX5_drops : MethodName := ⟨RX5, "drops", "(II)V"⟩
abbrev cX5_ends : ByteArray := prog_7_method_29_code
def yX5_ends : MethodName := ⟨RX5, "ends", "()V"⟩
abbrev cX5_run : ByteArray := prog_7_method_30_code
def yX5_run : MethodName := ⟨RX5, "run", "(I)I"⟩
abbrev cX5_rounds : ByteArray := prog_7_method_31_code
def yX5_rounds : MethodName := ⟨RX5, "rounds", "()I"⟩
abbrev cX5_peers : ByteArray := prog_7_method_32_code
def yX5_peers : MethodName := ⟨RX5, "peers", "()I"⟩
abbrev cX5_holds : ByteArray := prog_7_method_33_code
def yX5_holds : MethodName := ⟨RX5, "holds", "(I)I"⟩
abbrev cX5_holdsByLog : ByteArray := prog_7_method_34_code
def yX5_holdsByLog : MethodName := ⟨RX5, "holdsByLog", "(I)I"⟩
abbrev cX5_blocks : ByteArray := prog_7_method_35_code
def yX5_blocks : MethodName := ⟨RX5, "blocks", "(II)I"⟩
abbrev cX5_holders : ByteArray := prog_7_method_36_code
def yX5_holders : MethodName := ⟨RX5, "holders", "(I)I"⟩
abbrev cX5_arePeers : ByteArray := prog_7_method_37_code
def yX5_arePeers : MethodName := ⟨RX5, "arePeers", "(II)Z"⟩
abbrev cX5_shown : ByteArray := prog_7_method_38_code
def yX5_shown : MethodName := ⟨RX5, "shown", "(II)I"⟩
abbrev cX5_chosen : ByteArray := prog_7_method_39_code
def yX5_chosen : MethodName := ⟨RX5, "chosen", "(I)I"⟩
abbrev cX5_got : ByteArray := prog_7_method_40_code
def yX5_got : MethodName := ⟨RX5, "got", "(II)I"⟩
abbrev cX5_doubles : ByteArray := prog_7_method_41_code
def yX5_doubles : MethodName := ⟨RX5, "doubles", "(I)I"⟩
abbrev cX5_strikes : ByteArray := prog_7_method_42_code
def yX5_strikes : MethodName := ⟨RX5, "strikes", "(II)I"⟩
abbrev cX5_isBanned : ByteArray := prog_7_method_43_code
def yX5_isBanned : MethodName := ⟨RX5, "isBanned", "(II)Z"⟩
def RJx145de : String := "java/io/Serializable"
def TJx145de : u_T := fun k => match k with
  | _ => ("", "", "", false)
def tyJx145de : Nat → FieldType := fun k => match k with
  | _ => .int
abbrev wsJx145de0 : List Cond := u_ws RJx145de TJx145de 0
theorem nmJx145de : ∀ a, a < 0 → ∀ b, b < 0 → a ≠ b → (TJx145de a).2.1 ≠ (TJx145de b).2.1 := by decide +kernel
theorem tyJx145de_ok : ∀ k, k < 0 → parseFieldDescriptor (TJx145de k).2.2.1 = some (tyJx145de k) := by decide +kernel
def RJ6 : String := "java/lang/Integer"
def TJ6 : u_T := fun k => match k with
  | _ => ("", "", "", false)
def tyJ6 : Nat → FieldType := fun k => match k with
  | _ => .int
abbrev wsJ60 : List Cond := u_ws RJ6 TJ6 0
theorem nmJ6 : ∀ a, a < 0 → ∀ b, b < 0 → a ≠ b → (TJ6 a).2.1 ≠ (TJ6 b).2.1 := by decide +kernel
theorem tyJ6_ok : ∀ k, k < 0 → parseFieldDescriptor (TJ6 k).2.2.1 = some (tyJ6 k) := by decide +kernel
abbrev cJ6_bitCount_0f7a4 : ByteArray := prog_12_method_49_code
def yJ6_bitCount_0f7a4 : MethodName := ⟨RJ6, "bitCount", "(I)I"⟩
def RJ0 : String := "java/lang/String"
def TJ0 : u_T := fun k => match k with
  | _ => ("", "", "", false)
def tyJ0 : Nat → FieldType := fun k => match k with
  | _ => .int
abbrev wsJ00 : List Cond := u_ws RJ0 TJ0 0
theorem nmJ0 : ∀ a, a < 0 → ∀ b, b < 0 → a ≠ b → (TJ0 a).2.1 ≠ (TJ0 b).2.1 := by decide +kernel
theorem tyJ0_ok : ∀ k, k < 0 → parseFieldDescriptor (TJ0 k).2.2.1 = some (tyJ0 k) := by decide +kernel
def RJ7 : String := "java/util/Arrays"
def TJ7 : u_T := fun k => match k with
  | _ => ("", "", "", false)
def tyJ7 : Nat → FieldType := fun k => match k with
  | _ => .int
abbrev wsJ70 : List Cond := u_ws RJ7 TJ7 0
theorem nmJ7 : ∀ a, a < 0 → ∀ b, b < 0 → a ≠ b → (TJ7 a).2.1 ≠ (TJ7 b).2.1 := by decide +kernel
theorem tyJ7_ok : ∀ k, k < 0 → parseFieldDescriptor (TJ7 k).2.2.1 = some (tyJ7 k) := by decide +kernel
abbrev cJ7_fill_53178 : ByteArray := prog_16_method_103_code
def yJ7_fill_53178 : MethodName := ⟨RJ7, "fill", "([II)V"⟩
def RL : String := "SwarmhallLaw"
abbrev cL_join : ByteArray := method_3_code
def yL_join : MethodName := ⟨RL, "join", "(LSwarmhall;Z[J)I"⟩
abbrev cL_leave : ByteArray := method_4_code
def yL_leave : MethodName := ⟨RL, "leave", "(LSwarmhall;I[J)I"⟩
abbrev cL_setPriority : ByteArray := method_5_code
def yL_setPriority : MethodName := ⟨RL, "setPriority", "(LSwarmhall;II[J)I"⟩
abbrev cL_setSequence : ByteArray := method_6_code
def yL_setSequence : MethodName := ⟨RL, "setSequence", "(LSwarmhall;IZ[J)I"⟩
abbrev cL_setCareful : ByteArray := method_7_code
def yL_setCareful : MethodName := ⟨RL, "setCareful", "(LSwarmhall;IZ[J)I"⟩
abbrev cL_spoil : ByteArray := method_8_code
def yL_spoil : MethodName := ⟨RL, "spoil", "(LSwarmhall;IIZ[J)I"⟩
abbrev cL_run : ByteArray := method_9_code
def yL_run : MethodName := ⟨RL, "run", "(LSwarmhall;I[J)I"⟩
abbrev cL_holds : ByteArray := method_10_code
def yL_holds : MethodName := ⟨RL, "holds", "(LSwarmhall;I[J)I"⟩
abbrev cL_holdsByLog : ByteArray := method_11_code
def yL_holdsByLog : MethodName := ⟨RL, "holdsByLog", "(LSwarmhall;I[J)I"⟩
abbrev cL_blocks : ByteArray := method_12_code
def yL_blocks : MethodName := ⟨RL, "blocks", "(LSwarmhall;II[J)I"⟩
abbrev cL_holders : ByteArray := method_13_code
def yL_holders : MethodName := ⟨RL, "holders", "(LSwarmhall;I[J)I"⟩
abbrev cL_shown : ByteArray := method_14_code
def yL_shown : MethodName := ⟨RL, "shown", "(LSwarmhall;II[J)I"⟩
abbrev cL_chosen : ByteArray := method_15_code
def yL_chosen : MethodName := ⟨RL, "chosen", "(LSwarmhall;I[J)I"⟩
abbrev cL_got : ByteArray := method_16_code
def yL_got : MethodName := ⟨RL, "got", "(LSwarmhall;II[J)I"⟩
abbrev cL_doubles : ByteArray := method_17_code
def yL_doubles : MethodName := ⟨RL, "doubles", "(LSwarmhall;I[J)I"⟩
abbrev cL_strikes : ByteArray := method_18_code
def yL_strikes : MethodName := ⟨RL, "strikes", "(LSwarmhall;II[J)I"⟩
abbrev cL_isBanned : ByteArray := method_19_code
def yL_isBanned : MethodName := ⟨RL, "isBanned", "(LSwarmhall;II[J)I"⟩
abbrev cL_law : ByteArray := code
def yL_law : MethodName := ⟨RL, "law", "([I)Z"⟩
abbrev vwCl : List vw_C := [(RX0, TX0, 4), (RX1, TX1, 3), (RX2, TX2, 14), (RX3, TX3, 3), (RX4, TX4, 5), (RX5, TX5, 23)]
end
section
theorem dX0_init_0 : decode cX0_init 0 = .ok (.aload_n 0, 1) := by decide +kernel
theorem dX0_init_1 : decode cX0_init 1 = .ok (.invokespecial 3, 3) := by decide +kernel
theorem dX0_init_4 : decode cX0_init 4 = .ok (.aload_n 0, 1) := by decide +kernel
theorem dX0_init_5 : decode cX0_init 5 = .ok (.bipush 6, 2) := by decide +kernel
theorem dX0_init_7 : decode cX0_init 7 = .ok (.newarray .int, 2) := by decide +kernel
theorem dX0_init_9 : decode cX0_init 9 = .ok (.putfield 9, 3) := by decide +kernel
theorem dX0_init_12 : decode cX0_init 12 = .ok (.aload_n 0, 1) := by decide +kernel
theorem dX0_init_13 : decode cX0_init 13 = .ok (.bipush 6, 2) := by decide +kernel
theorem dX0_init_15 : decode cX0_init 15 = .ok (.newarray .int, 2) := by decide +kernel
theorem dX0_init_17 : decode cX0_init 17 = .ok (.putfield 15, 3) := by decide +kernel
theorem dX0_init_20 : decode cX0_init 20 = .ok (.aload_n 0, 1) := by decide +kernel
theorem dX0_init_21 : decode cX0_init 21 = .ok (.iconst 0, 1) := by decide +kernel
theorem dX0_init_22 : decode cX0_init 22 = .ok (.putfield 18, 3) := by decide +kernel
theorem dX0_init_25 : decode cX0_init 25 = .ok (.aload_n 0, 1) := by decide +kernel
theorem dX0_init_26 : decode cX0_init 26 = .ok (.lconst 0, 1) := by decide +kernel
theorem dX0_init_27 : decode cX0_init 27 = .ok (.putfield 22, 3) := by decide +kernel
theorem dX0_init_30 : decode cX0_init 30 = .ok (.return_, 1) := by decide +kernel
theorem dX0_clear_0 : decode cX0_clear 0 = .ok (.aload_n 0, 1) := by decide +kernel
theorem dX0_clear_1 : decode cX0_clear 1 = .ok (.iconst 0, 1) := by decide +kernel
theorem dX0_clear_2 : decode cX0_clear 2 = .ok (.putfield 18, 3) := by decide +kernel
theorem dX0_clear_5 : decode cX0_clear 5 = .ok (.aload_n 0, 1) := by decide +kernel
theorem dX0_clear_6 : decode cX0_clear 6 = .ok (.lconst 0, 1) := by decide +kernel
theorem dX0_clear_7 : decode cX0_clear 7 = .ok (.putfield 22, 3) := by decide +kernel
theorem dX0_clear_10 : decode cX0_clear 10 = .ok (.return_, 1) := by decide +kernel
theorem dX0_add_0 : decode cX0_add 0 = .ok (.iload_n 1, 1) := by decide +kernel
theorem dX0_add_1 : decode cX0_add 1 = .ok (.iconst (-1), 1) := by decide +kernel
theorem dX0_add_2 : decode cX0_add 2 = .ok (.if_icmp .eq 57, 3) := by decide +kernel
theorem dX0_add_5 : decode cX0_add 5 = .ok (.aload_n 0, 1) := by decide +kernel
theorem dX0_add_6 : decode cX0_add 6 = .ok (.getfield 18, 3) := by decide +kernel
theorem dX0_add_9 : decode cX0_add 9 = .ok (.aload_n 0, 1) := by decide +kernel
theorem dX0_add_10 : decode cX0_add 10 = .ok (.getfield 9, 3) := by decide +kernel
theorem dX0_add_13 : decode cX0_add 13 = .ok (.arraylength, 1) := by decide +kernel
theorem dX0_add_14 : decode cX0_add 14 = .ok (.if_icmp .ge 45, 3) := by decide +kernel
theorem dX0_add_17 : decode cX0_add 17 = .ok (.aload_n 0, 1) := by decide +kernel
theorem dX0_add_18 : decode cX0_add 18 = .ok (.getfield 9, 3) := by decide +kernel
theorem dX0_add_21 : decode cX0_add 21 = .ok (.aload_n 0, 1) := by decide +kernel
theorem dX0_add_22 : decode cX0_add 22 = .ok (.getfield 18, 3) := by decide +kernel
theorem dX0_add_25 : decode cX0_add 25 = .ok (.iload_n 1, 1) := by decide +kernel
theorem dX0_add_26 : decode cX0_add 26 = .ok (.iastore, 1) := by decide +kernel
theorem dX0_add_27 : decode cX0_add 27 = .ok (.aload_n 0, 1) := by decide +kernel
theorem dX0_add_28 : decode cX0_add 28 = .ok (.getfield 15, 3) := by decide +kernel
theorem dX0_add_31 : decode cX0_add 31 = .ok (.aload_n 0, 1) := by decide +kernel
theorem dX0_add_32 : decode cX0_add 32 = .ok (.getfield 18, 3) := by decide +kernel
theorem dX0_add_35 : decode cX0_add 35 = .ok (.iload_n 2, 1) := by decide +kernel
theorem dX0_add_36 : decode cX0_add 36 = .ok (.iastore, 1) := by decide +kernel
theorem dX0_add_37 : decode cX0_add 37 = .ok (.aload_n 0, 1) := by decide +kernel
theorem dX0_add_38 : decode cX0_add 38 = .ok (.dup, 1) := by decide +kernel
theorem dX0_add_39 : decode cX0_add 39 = .ok (.getfield 18, 3) := by decide +kernel
theorem dX0_add_42 : decode cX0_add 42 = .ok (.iconst 1, 1) := by decide +kernel
theorem dX0_add_43 : decode cX0_add 43 = .ok (.iadd, 1) := by decide +kernel
theorem dX0_add_44 : decode cX0_add 44 = .ok (.putfield 18, 3) := by decide +kernel
theorem dX0_add_47 : decode cX0_add 47 = .ok (.aload_n 0, 1) := by decide +kernel
theorem dX0_add_48 : decode cX0_add 48 = .ok (.dup, 1) := by decide +kernel
theorem dX0_add_49 : decode cX0_add 49 = .ok (.getfield 22, 3) := by decide +kernel
theorem dX0_add_52 : decode cX0_add 52 = .ok (.lconst 1, 1) := by decide +kernel
theorem dX0_add_53 : decode cX0_add 53 = .ok (.iload_n 1, 1) := by decide +kernel
theorem dX0_add_54 : decode cX0_add 54 = .ok (.lshl, 1) := by decide +kernel
theorem dX0_add_55 : decode cX0_add 55 = .ok (.lor, 1) := by decide +kernel
theorem dX0_add_56 : decode cX0_add 56 = .ok (.putfield 22, 3) := by decide +kernel
theorem dX0_add_59 : decode cX0_add 59 = .ok (.return_, 1) := by decide +kernel
theorem dX1_init_0 : decode cX1_init 0 = .ok (.aload_n 0, 1) := by decide +kernel
theorem dX1_init_1 : decode cX1_init 1 = .ok (.invokespecial 3, 3) := by decide +kernel
theorem dX1_init_4 : decode cX1_init 4 = .ok (.aload_n 0, 1) := by decide +kernel
theorem dX1_init_5 : decode cX1_init 5 = .ok (.sipush 1000, 3) := by decide +kernel
theorem dX1_init_8 : decode cX1_init 8 = .ok (.newarray .int, 2) := by decide +kernel
theorem dX1_init_10 : decode cX1_init 10 = .ok (.putfield 9, 3) := by decide +kernel
theorem dX1_init_13 : decode cX1_init 13 = .ok (.aload_n 0, 1) := by decide +kernel
theorem dX1_init_14 : decode cX1_init 14 = .ok (.iconst 0, 1) := by decide +kernel
theorem dX1_init_15 : decode cX1_init 15 = .ok (.putfield 15, 3) := by decide +kernel
theorem dX1_init_18 : decode cX1_init 18 = .ok (.aload_n 0, 1) := by decide +kernel
theorem dX1_init_19 : decode cX1_init 19 = .ok (.iload_n 1, 1) := by decide +kernel
theorem dX1_init_20 : decode cX1_init 20 = .ok (.putfield 19, 3) := by decide +kernel
theorem dX1_init_23 : decode cX1_init 23 = .ok (.return_, 1) := by decide +kernel
theorem dX1_add_0 : decode cX1_add 0 = .ok (.aload_n 0, 1) := by decide +kernel
theorem dX1_add_1 : decode cX1_add 1 = .ok (.getfield 15, 3) := by decide +kernel
theorem dX1_add_4 : decode cX1_add 4 = .ok (.aload_n 0, 1) := by decide +kernel
theorem dX1_add_5 : decode cX1_add 5 = .ok (.getfield 9, 3) := by decide +kernel
theorem dX1_add_8 : decode cX1_add 8 = .ok (.arraylength, 1) := by decide +kernel
theorem dX1_add_9 : decode cX1_add 9 = .ok (.if_icmp .ge 40, 3) := by decide +kernel
theorem dX1_add_12 : decode cX1_add 12 = .ok (.aload_n 0, 1) := by decide +kernel
theorem dX1_add_13 : decode cX1_add 13 = .ok (.getfield 9, 3) := by decide +kernel
theorem dX1_add_16 : decode cX1_add 16 = .ok (.aload_n 0, 1) := by decide +kernel
theorem dX1_add_17 : decode cX1_add 17 = .ok (.getfield 15, 3) := by decide +kernel
theorem dX1_add_20 : decode cX1_add 20 = .ok (.iload_n 1, 1) := by decide +kernel
theorem dX1_add_21 : decode cX1_add 21 = .ok (.iconst 2, 1) := by decide +kernel
theorem dX1_add_22 : decode cX1_add 22 = .ok (.imul, 1) := by decide +kernel
theorem dX1_add_23 : decode cX1_add 23 = .ok (.iload_n 3, 1) := by decide +kernel
theorem dX1_add_24 : decode cX1_add 24 = .ok (.ifCond .eq 7, 3) := by decide +kernel
theorem dX1_add_27 : decode cX1_add 27 = .ok (.iconst 1, 1) := by decide +kernel
theorem dX1_add_28 : decode cX1_add 28 = .ok (.goto 4, 3) := by decide +kernel
theorem dX1_add_31 : decode cX1_add 31 = .ok (.iconst 0, 1) := by decide +kernel
theorem dX1_add_32 : decode cX1_add 32 = .ok (.iadd, 1) := by decide +kernel
theorem dX1_add_33 : decode cX1_add 33 = .ok (.bipush 48, 2) := by decide +kernel
theorem dX1_add_35 : decode cX1_add 35 = .ok (.imul, 1) := by decide +kernel
theorem dX1_add_36 : decode cX1_add 36 = .ok (.iload_n 2, 1) := by decide +kernel
theorem dX1_add_37 : decode cX1_add 37 = .ok (.iadd, 1) := by decide +kernel
theorem dX1_add_38 : decode cX1_add 38 = .ok (.iastore, 1) := by decide +kernel
theorem dX1_add_39 : decode cX1_add 39 = .ok (.aload_n 0, 1) := by decide +kernel
theorem dX1_add_40 : decode cX1_add 40 = .ok (.dup, 1) := by decide +kernel
theorem dX1_add_41 : decode cX1_add 41 = .ok (.getfield 15, 3) := by decide +kernel
theorem dX1_add_44 : decode cX1_add 44 = .ok (.iconst 1, 1) := by decide +kernel
theorem dX1_add_45 : decode cX1_add 45 = .ok (.iadd, 1) := by decide +kernel
theorem dX1_add_46 : decode cX1_add 46 = .ok (.putfield 15, 3) := by decide +kernel
theorem dX1_add_49 : decode cX1_add 49 = .ok (.return_, 1) := by decide +kernel
theorem dX1_replayHeld_0 : decode cX1_replayHeld 0 = .ok (.new 22, 3) := by decide +kernel
theorem dX1_replayHeld_3 : decode cX1_replayHeld 3 = .ok (.dup, 1) := by decide +kernel
theorem dX1_replayHeld_4 : decode cX1_replayHeld 4 = .ok (.aload_n 0, 1) := by decide +kernel
theorem dX1_replayHeld_5 : decode cX1_replayHeld 5 = .ok (.getfield 19, 3) := by decide +kernel
theorem dX1_replayHeld_8 : decode cX1_replayHeld 8 = .ok (.invokespecial 24, 3) := by decide +kernel
theorem dX1_replayHeld_11 : decode cX1_replayHeld 11 = .ok (.astore_n 1, 1) := by decide +kernel
theorem dX1_replayHeld_12 : decode cX1_replayHeld 12 = .ok (.iconst 0, 1) := by decide +kernel
theorem dX1_replayHeld_13 : decode cX1_replayHeld 13 = .ok (.istore_n 2, 1) := by decide +kernel
theorem dX1_replayHeld_14 : decode cX1_replayHeld 14 = .ok (.iconst 0, 1) := by decide +kernel
theorem dX1_replayHeld_15 : decode cX1_replayHeld 15 = .ok (.istore_n 3, 1) := by decide +kernel
theorem dX1_replayHeld_16 : decode cX1_replayHeld 16 = .ok (.iload_n 3, 1) := by decide +kernel
theorem dX1_replayHeld_17 : decode cX1_replayHeld 17 = .ok (.aload_n 0, 1) := by decide +kernel
theorem dX1_replayHeld_18 : decode cX1_replayHeld 18 = .ok (.getfield 15, 3) := by decide +kernel
theorem dX1_replayHeld_21 : decode cX1_replayHeld 21 = .ok (.if_icmp .ge 62, 3) := by decide +kernel
theorem dX1_replayHeld_24 : decode cX1_replayHeld 24 = .ok (.aload_n 0, 1) := by decide +kernel
theorem dX1_replayHeld_25 : decode cX1_replayHeld 25 = .ok (.getfield 9, 3) := by decide +kernel
theorem dX1_replayHeld_28 : decode cX1_replayHeld 28 = .ok (.iload_n 3, 1) := by decide +kernel
theorem dX1_replayHeld_29 : decode cX1_replayHeld 29 = .ok (.iaload, 1) := by decide +kernel
theorem dX1_replayHeld_30 : decode cX1_replayHeld 30 = .ok (.istore 4, 2) := by decide +kernel
theorem dX1_replayHeld_32 : decode cX1_replayHeld 32 = .ok (.iload 4, 2) := by decide +kernel
theorem dX1_replayHeld_34 : decode cX1_replayHeld 34 = .ok (.bipush 96, 2) := by decide +kernel
theorem dX1_replayHeld_36 : decode cX1_replayHeld 36 = .ok (.idiv, 1) := by decide +kernel
theorem dX1_replayHeld_37 : decode cX1_replayHeld 37 = .ok (.iload_n 2, 1) := by decide +kernel
theorem dX1_replayHeld_38 : decode cX1_replayHeld 38 = .ok (.if_icmp .eq 13, 3) := by decide +kernel
theorem dX1_replayHeld_41 : decode cX1_replayHeld 41 = .ok (.aload_n 1, 1) := by decide +kernel
theorem dX1_replayHeld_42 : decode cX1_replayHeld 42 = .ok (.invokevirtual 27, 3) := by decide +kernel
theorem dX1_replayHeld_45 : decode cX1_replayHeld 45 = .ok (.iload 4, 2) := by decide +kernel
theorem dX1_replayHeld_47 : decode cX1_replayHeld 47 = .ok (.bipush 96, 2) := by decide +kernel
theorem dX1_replayHeld_49 : decode cX1_replayHeld 49 = .ok (.idiv, 1) := by decide +kernel
theorem dX1_replayHeld_50 : decode cX1_replayHeld 50 = .ok (.istore_n 2, 1) := by decide +kernel
theorem dX1_replayHeld_51 : decode cX1_replayHeld 51 = .ok (.aload_n 1, 1) := by decide +kernel
theorem dX1_replayHeld_52 : decode cX1_replayHeld 52 = .ok (.iload 4, 2) := by decide +kernel
theorem dX1_replayHeld_54 : decode cX1_replayHeld 54 = .ok (.bipush 48, 2) := by decide +kernel
theorem dX1_replayHeld_56 : decode cX1_replayHeld 56 = .ok (.irem, 1) := by decide +kernel
theorem dX1_replayHeld_57 : decode cX1_replayHeld 57 = .ok (.iload 4, 2) := by decide +kernel
theorem dX1_replayHeld_59 : decode cX1_replayHeld 59 = .ok (.bipush 48, 2) := by decide +kernel
theorem dX1_replayHeld_61 : decode cX1_replayHeld 61 = .ok (.idiv, 1) := by decide +kernel
theorem dX1_replayHeld_62 : decode cX1_replayHeld 62 = .ok (.iconst 2, 1) := by decide +kernel
theorem dX1_replayHeld_63 : decode cX1_replayHeld 63 = .ok (.irem, 1) := by decide +kernel
theorem dX1_replayHeld_64 : decode cX1_replayHeld 64 = .ok (.iconst 1, 1) := by decide +kernel
theorem dX1_replayHeld_65 : decode cX1_replayHeld 65 = .ok (.if_icmp .ne 7, 3) := by decide +kernel
theorem dX1_replayHeld_68 : decode cX1_replayHeld 68 = .ok (.iconst 1, 1) := by decide +kernel
theorem dX1_replayHeld_69 : decode cX1_replayHeld 69 = .ok (.goto 4, 3) := by decide +kernel
theorem dX1_replayHeld_72 : decode cX1_replayHeld 72 = .ok (.iconst 0, 1) := by decide +kernel
theorem dX1_replayHeld_73 : decode cX1_replayHeld 73 = .ok (.invokevirtual 30, 3) := by decide +kernel
theorem dX1_replayHeld_76 : decode cX1_replayHeld 76 = .ok (.pop, 1) := by decide +kernel
theorem dX1_replayHeld_77 : decode cX1_replayHeld 77 = .ok (.iinc 3 1, 3) := by decide +kernel
theorem dX1_replayHeld_80 : decode cX1_replayHeld 80 = .ok (.goto (-64), 3) := by decide +kernel
theorem dX1_replayHeld_83 : decode cX1_replayHeld 83 = .ok (.aload_n 1, 1) := by decide +kernel
theorem dX1_replayHeld_84 : decode cX1_replayHeld 84 = .ok (.invokevirtual 27, 3) := by decide +kernel
theorem dX1_replayHeld_87 : decode cX1_replayHeld 87 = .ok (.aload_n 1, 1) := by decide +kernel
theorem dX1_replayHeld_88 : decode cX1_replayHeld 88 = .ok (.getfield 34, 3) := by decide +kernel
theorem dX1_replayHeld_91 : decode cX1_replayHeld 91 = .ok (.ireturn, 1) := by decide +kernel
theorem dX2_init_0 : decode cX2_init 0 = .ok (.aload_n 0, 1) := by decide +kernel
theorem dX2_init_1 : decode cX2_init 1 = .ok (.invokespecial 3, 3) := by decide +kernel
theorem dX2_init_4 : decode cX2_init 4 = .ok (.aload_n 0, 1) := by decide +kernel
theorem dX2_init_5 : decode cX2_init 5 = .ok (.new 9, 3) := by decide +kernel
theorem dX2_init_8 : decode cX2_init 8 = .ok (.dup, 1) := by decide +kernel
theorem dX2_init_9 : decode cX2_init 9 = .ok (.invokespecial 11, 3) := by decide +kernel
theorem dX2_init_12 : decode cX2_init 12 = .ok (.putfield 12, 3) := by decide +kernel
theorem dX2_init_15 : decode cX2_init 15 = .ok (.aload_n 0, 1) := by decide +kernel
theorem dX2_init_16 : decode cX2_init 16 = .ok (.iconst 0, 1) := by decide +kernel
theorem dX2_init_17 : decode cX2_init 17 = .ok (.putfield 18, 3) := by decide +kernel
theorem dX2_init_20 : decode cX2_init 20 = .ok (.aload_n 0, 1) := by decide +kernel
theorem dX2_init_21 : decode cX2_init 21 = .ok (.iconst 0, 1) := by decide +kernel
theorem dX2_init_22 : decode cX2_init 22 = .ok (.putfield 22, 3) := by decide +kernel
theorem dX2_init_25 : decode cX2_init 25 = .ok (.aload_n 0, 1) := by decide +kernel
theorem dX2_init_26 : decode cX2_init 26 = .ok (.iconst 0, 1) := by decide +kernel
theorem dX2_init_27 : decode cX2_init 27 = .ok (.putfield 26, 3) := by decide +kernel
theorem dX2_init_30 : decode cX2_init 30 = .ok (.aload_n 0, 1) := by decide +kernel
theorem dX2_init_31 : decode cX2_init 31 = .ok (.bipush 6, 2) := by decide +kernel
theorem dX2_init_33 : decode cX2_init 33 = .ok (.newarray .long, 2) := by decide +kernel
theorem dX2_init_35 : decode cX2_init 35 = .ok (.putfield 29, 3) := by decide +kernel
theorem dX2_init_38 : decode cX2_init 38 = .ok (.aload_n 0, 1) := by decide +kernel
theorem dX2_init_39 : decode cX2_init 39 = .ok (.bipush 6, 2) := by decide +kernel
theorem dX2_init_41 : decode cX2_init 41 = .ok (.newarray .int, 2) := by decide +kernel
theorem dX2_init_43 : decode cX2_init 43 = .ok (.putfield 33, 3) := by decide +kernel
theorem dX2_init_46 : decode cX2_init 46 = .ok (.aload_n 0, 1) := by decide +kernel
theorem dX2_init_47 : decode cX2_init 47 = .ok (.bipush 6, 2) := by decide +kernel
theorem dX2_init_49 : decode cX2_init 49 = .ok (.newarray .int, 2) := by decide +kernel
theorem dX2_init_51 : decode cX2_init 51 = .ok (.putfield 37, 3) := by decide +kernel
theorem dX2_init_54 : decode cX2_init 54 = .ok (.aload_n 0, 1) := by decide +kernel
theorem dX2_init_55 : decode cX2_init 55 = .ok (.iconst 0, 1) := by decide +kernel
theorem dX2_init_56 : decode cX2_init 56 = .ok (.putfield 40, 3) := by decide +kernel
theorem dX2_init_59 : decode cX2_init 59 = .ok (.aload_n 0, 1) := by decide +kernel
theorem dX2_init_60 : decode cX2_init 60 = .ok (.iconst 0, 1) := by decide +kernel
theorem dX2_init_61 : decode cX2_init 61 = .ok (.putfield 43, 3) := by decide +kernel
theorem dX2_init_64 : decode cX2_init 64 = .ok (.aload_n 0, 1) := by decide +kernel
theorem dX2_init_65 : decode cX2_init 65 = .ok (.bipush 6, 2) := by decide +kernel
theorem dX2_init_67 : decode cX2_init 67 = .ok (.newarray .int, 2) := by decide +kernel
theorem dX2_init_69 : decode cX2_init 69 = .ok (.putfield 46, 3) := by decide +kernel
theorem dX2_init_72 : decode cX2_init 72 = .ok (.aload_n 0, 1) := by decide +kernel
theorem dX2_init_73 : decode cX2_init 73 = .ok (.iconst 0, 1) := by decide +kernel
theorem dX2_init_74 : decode cX2_init 74 = .ok (.putfield 49, 3) := by decide +kernel
theorem dX2_init_77 : decode cX2_init 77 = .ok (.aload_n 0, 1) := by decide +kernel
theorem dX2_init_78 : decode cX2_init 78 = .ok (.iload_n 1, 1) := by decide +kernel
theorem dX2_init_79 : decode cX2_init 79 = .ok (.putfield 52, 3) := by decide +kernel
theorem dX2_init_82 : decode cX2_init 82 = .ok (.aload_n 0, 1) := by decide +kernel
theorem dX2_init_83 : decode cX2_init 83 = .ok (.new 55, 3) := by decide +kernel
theorem dX2_init_86 : decode cX2_init 86 = .ok (.dup, 1) := by decide +kernel
theorem dX2_init_87 : decode cX2_init 87 = .ok (.iload_n 2, 1) := by decide +kernel
theorem dX2_init_88 : decode cX2_init 88 = .ok (.invokespecial 57, 3) := by decide +kernel
theorem dX2_init_91 : decode cX2_init 91 = .ok (.putfield 60, 3) := by decide +kernel
theorem dX2_init_94 : decode cX2_init 94 = .ok (.aload_n 0, 1) := by decide +kernel
theorem dX2_init_95 : decode cX2_init 95 = .ok (.new 64, 3) := by decide +kernel
theorem dX2_init_98 : decode cX2_init 98 = .ok (.dup, 1) := by decide +kernel
theorem dX2_init_99 : decode cX2_init 99 = .ok (.iload_n 2, 1) := by decide +kernel
theorem dX2_init_100 : decode cX2_init 100 = .ok (.invokespecial 66, 3) := by decide +kernel
theorem dX2_init_103 : decode cX2_init 103 = .ok (.putfield 67, 3) := by decide +kernel
theorem dX2_init_106 : decode cX2_init 106 = .ok (.return_, 1) := by decide +kernel
theorem dX2_blame_0 : decode cX2_blame 0 = .ok (.iload_n 1, 1) := by decide +kernel
theorem dX2_blame_1 : decode cX2_blame 1 = .ok (.invokestatic 71, 3) := by decide +kernel
theorem dX2_blame_4 : decode cX2_blame 4 = .ok (.lstore_n 2, 1) := by decide +kernel
theorem dX2_blame_5 : decode cX2_blame 5 = .ok (.iconst 0, 1) := by decide +kernel
theorem dX2_blame_6 : decode cX2_blame 6 = .ok (.istore 4, 2) := by decide +kernel
theorem dX2_blame_8 : decode cX2_blame 8 = .ok (.iload 4, 2) := by decide +kernel
theorem dX2_blame_10 : decode cX2_blame 10 = .ok (.aload_n 0, 1) := by decide +kernel
theorem dX2_blame_11 : decode cX2_blame 11 = .ok (.getfield 29, 3) := by decide +kernel
theorem dX2_blame_14 : decode cX2_blame 14 = .ok (.arraylength, 1) := by decide +kernel
theorem dX2_blame_15 : decode cX2_blame 15 = .ok (.if_icmp .ge 69, 3) := by decide +kernel
theorem dX2_blame_18 : decode cX2_blame 18 = .ok (.aload_n 0, 1) := by decide +kernel
theorem dX2_blame_19 : decode cX2_blame 19 = .ok (.getfield 29, 3) := by decide +kernel
theorem dX2_blame_22 : decode cX2_blame 22 = .ok (.iload 4, 2) := by decide +kernel
theorem dX2_blame_24 : decode cX2_blame 24 = .ok (.laload, 1) := by decide +kernel
theorem dX2_blame_25 : decode cX2_blame 25 = .ok (.lload_n 2, 1) := by decide +kernel
theorem dX2_blame_26 : decode cX2_blame 26 = .ok (.land, 1) := by decide +kernel
theorem dX2_blame_27 : decode cX2_blame 27 = .ok (.lstore 5, 2) := by decide +kernel
theorem dX2_blame_29 : decode cX2_blame 29 = .ok (.lload 5, 2) := by decide +kernel
theorem dX2_blame_31 : decode cX2_blame 31 = .ok (.lconst 0, 1) := by decide +kernel
theorem dX2_blame_32 : decode cX2_blame 32 = .ok (.lcmp, 1) := by decide +kernel
theorem dX2_blame_33 : decode cX2_blame 33 = .ok (.ifCond .eq 45, 3) := by decide +kernel
theorem dX2_blame_36 : decode cX2_blame 36 = .ok (.aload_n 0, 1) := by decide +kernel
theorem dX2_blame_37 : decode cX2_blame 37 = .ok (.getfield 37, 3) := by decide +kernel
theorem dX2_blame_40 : decode cX2_blame 40 = .ok (.iload 4, 2) := by decide +kernel
theorem dX2_blame_42 : decode cX2_blame 42 = .ok (.dup2, 1) := by decide +kernel
theorem dX2_blame_43 : decode cX2_blame 43 = .ok (.iaload, 1) := by decide +kernel
theorem dX2_blame_44 : decode cX2_blame 44 = .ok (.iconst 1, 1) := by decide +kernel
theorem dX2_blame_45 : decode cX2_blame 45 = .ok (.iadd, 1) := by decide +kernel
theorem dX2_blame_46 : decode cX2_blame 46 = .ok (.iastore, 1) := by decide +kernel
theorem dX2_blame_47 : decode cX2_blame 47 = .ok (.lload 5, 2) := by decide +kernel
theorem dX2_blame_49 : decode cX2_blame 49 = .ok (.lload_n 2, 1) := by decide +kernel
theorem dX2_blame_50 : decode cX2_blame 50 = .ok (.lcmp, 1) := by decide +kernel
theorem dX2_blame_51 : decode cX2_blame 51 = .ok (.ifCond .eq 14, 3) := by decide +kernel
theorem dX2_blame_54 : decode cX2_blame 54 = .ok (.aload_n 0, 1) := by decide +kernel
theorem dX2_blame_55 : decode cX2_blame 55 = .ok (.getfield 37, 3) := by decide +kernel
theorem dX2_blame_58 : decode cX2_blame 58 = .ok (.iload 4, 2) := by decide +kernel
theorem dX2_blame_60 : decode cX2_blame 60 = .ok (.iaload, 1) := by decide +kernel
theorem dX2_blame_61 : decode cX2_blame 61 = .ok (.iconst 3, 1) := by decide +kernel
theorem dX2_blame_62 : decode cX2_blame 62 = .ok (.if_icmp .lt 16, 3) := by decide +kernel
theorem dX2_blame_65 : decode cX2_blame 65 = .ok (.aload_n 0, 1) := by decide +kernel
theorem dX2_blame_66 : decode cX2_blame 66 = .ok (.dup, 1) := by decide +kernel
theorem dX2_blame_67 : decode cX2_blame 67 = .ok (.getfield 40, 3) := by decide +kernel
theorem dX2_blame_70 : decode cX2_blame 70 = .ok (.iconst 1, 1) := by decide +kernel
theorem dX2_blame_71 : decode cX2_blame 71 = .ok (.iload 4, 2) := by decide +kernel
theorem dX2_blame_73 : decode cX2_blame 73 = .ok (.ishl, 1) := by decide +kernel
theorem dX2_blame_74 : decode cX2_blame 74 = .ok (.ior, 1) := by decide +kernel
theorem dX2_blame_75 : decode cX2_blame 75 = .ok (.putfield 40, 3) := by decide +kernel
theorem dX2_blame_78 : decode cX2_blame 78 = .ok (.iinc 4 1, 3) := by decide +kernel
theorem dX2_blame_81 : decode cX2_blame 81 = .ok (.goto (-73), 3) := by decide +kernel
theorem dX2_blame_84 : decode cX2_blame 84 = .ok (.return_, 1) := by decide +kernel
theorem dX2_forgetSenders_0 : decode cX2_forgetSenders 0 = .ok (.iconst 0, 1) := by decide +kernel
theorem dX2_forgetSenders_1 : decode cX2_forgetSenders 1 = .ok (.istore_n 2, 1) := by decide +kernel
theorem dX2_forgetSenders_2 : decode cX2_forgetSenders 2 = .ok (.iload_n 2, 1) := by decide +kernel
theorem dX2_forgetSenders_3 : decode cX2_forgetSenders 3 = .ok (.aload_n 0, 1) := by decide +kernel
theorem dX2_forgetSenders_4 : decode cX2_forgetSenders 4 = .ok (.getfield 29, 3) := by decide +kernel
theorem dX2_forgetSenders_7 : decode cX2_forgetSenders 7 = .ok (.arraylength, 1) := by decide +kernel
theorem dX2_forgetSenders_8 : decode cX2_forgetSenders 8 = .ok (.if_icmp .ge 26, 3) := by decide +kernel
theorem dX2_forgetSenders_11 : decode cX2_forgetSenders 11 = .ok (.aload_n 0, 1) := by decide +kernel
theorem dX2_forgetSenders_12 : decode cX2_forgetSenders 12 = .ok (.getfield 29, 3) := by decide +kernel
theorem dX2_forgetSenders_15 : decode cX2_forgetSenders 15 = .ok (.iload_n 2, 1) := by decide +kernel
theorem dX2_forgetSenders_16 : decode cX2_forgetSenders 16 = .ok (.dup2, 1) := by decide +kernel
theorem dX2_forgetSenders_17 : decode cX2_forgetSenders 17 = .ok (.laload, 1) := by decide +kernel
theorem dX2_forgetSenders_18 : decode cX2_forgetSenders 18 = .ok (.iload_n 1, 1) := by decide +kernel
theorem dX2_forgetSenders_19 : decode cX2_forgetSenders 19 = .ok (.invokestatic 71, 3) := by decide +kernel
theorem dX2_forgetSenders_22 : decode cX2_forgetSenders 22 = .ok (.ldc2_w 75, 3) := by decide +kernel
theorem dX2_forgetSenders_25 : decode cX2_forgetSenders 25 = .ok (.lxor, 1) := by decide +kernel
theorem dX2_forgetSenders_26 : decode cX2_forgetSenders 26 = .ok (.land, 1) := by decide +kernel
theorem dX2_forgetSenders_27 : decode cX2_forgetSenders 27 = .ok (.lastore, 1) := by decide +kernel
theorem dX2_forgetSenders_28 : decode cX2_forgetSenders 28 = .ok (.iinc 2 1, 3) := by decide +kernel
theorem dX2_forgetSenders_31 : decode cX2_forgetSenders 31 = .ok (.goto (-29), 3) := by decide +kernel
theorem dX2_forgetSenders_34 : decode cX2_forgetSenders 34 = .ok (.return_, 1) := by decide +kernel
theorem dX3_init_0 : decode cX3_init 0 = .ok (.aload_n 0, 1) := by decide +kernel
theorem dX3_init_1 : decode cX3_init 1 = .ok (.invokespecial 3, 3) := by decide +kernel
theorem dX3_init_4 : decode cX3_init 4 = .ok (.aload_n 0, 1) := by decide +kernel
theorem dX3_init_5 : decode cX3_init 5 = .ok (.lconst 0, 1) := by decide +kernel
theorem dX3_init_6 : decode cX3_init 6 = .ok (.putfield 9, 3) := by decide +kernel
theorem dX3_init_9 : decode cX3_init 9 = .ok (.aload_n 0, 1) := by decide +kernel
theorem dX3_init_10 : decode cX3_init 10 = .ok (.lconst 0, 1) := by decide +kernel
theorem dX3_init_11 : decode cX3_init 11 = .ok (.putfield 15, 3) := by decide +kernel
theorem dX3_init_14 : decode cX3_init 14 = .ok (.aload_n 0, 1) := by decide +kernel
theorem dX3_init_15 : decode cX3_init 15 = .ok (.iload_n 1, 1) := by decide +kernel
theorem dX3_init_16 : decode cX3_init 16 = .ok (.putfield 18, 3) := by decide +kernel
theorem dX3_init_19 : decode cX3_init 19 = .ok (.return_, 1) := by decide +kernel
theorem dX3_take_0 : decode cX3_take 0 = .ok (.aload_n 0, 1) := by decide +kernel
theorem dX3_take_1 : decode cX3_take 1 = .ok (.getfield 9, 3) := by decide +kernel
theorem dX3_take_4 : decode cX3_take 4 = .ok (.iload_n 1, 1) := by decide +kernel
theorem dX3_take_5 : decode cX3_take 5 = .ok (.invokestatic 22, 3) := by decide +kernel
theorem dX3_take_8 : decode cX3_take 8 = .ok (.ifCond .eq 5, 3) := by decide +kernel
theorem dX3_take_11 : decode cX3_take 11 = .ok (.iconst 0, 1) := by decide +kernel
theorem dX3_take_12 : decode cX3_take 12 = .ok (.ireturn, 1) := by decide +kernel
theorem dX3_take_13 : decode cX3_take 13 = .ok (.aload_n 0, 1) := by decide +kernel
theorem dX3_take_14 : decode cX3_take 14 = .ok (.dup, 1) := by decide +kernel
theorem dX3_take_15 : decode cX3_take 15 = .ok (.getfield 9, 3) := by decide +kernel
theorem dX3_take_18 : decode cX3_take 18 = .ok (.lconst 1, 1) := by decide +kernel
theorem dX3_take_19 : decode cX3_take 19 = .ok (.iload_n 1, 1) := by decide +kernel
theorem dX3_take_20 : decode cX3_take 20 = .ok (.lshl, 1) := by decide +kernel
theorem dX3_take_21 : decode cX3_take 21 = .ok (.lor, 1) := by decide +kernel
theorem dX3_take_22 : decode cX3_take 22 = .ok (.putfield 9, 3) := by decide +kernel
theorem dX3_take_25 : decode cX3_take 25 = .ok (.iload_n 2, 1) := by decide +kernel
theorem dX3_take_26 : decode cX3_take 26 = .ok (.ifCond .eq 15, 3) := by decide +kernel
theorem dX3_take_29 : decode cX3_take 29 = .ok (.aload_n 0, 1) := by decide +kernel
theorem dX3_take_30 : decode cX3_take 30 = .ok (.dup, 1) := by decide +kernel
theorem dX3_take_31 : decode cX3_take 31 = .ok (.getfield 15, 3) := by decide +kernel
theorem dX3_take_34 : decode cX3_take 34 = .ok (.lconst 1, 1) := by decide +kernel
theorem dX3_take_35 : decode cX3_take 35 = .ok (.iload_n 1, 1) := by decide +kernel
theorem dX3_take_36 : decode cX3_take 36 = .ok (.lshl, 1) := by decide +kernel
theorem dX3_take_37 : decode cX3_take 37 = .ok (.lor, 1) := by decide +kernel
theorem dX3_take_38 : decode cX3_take 38 = .ok (.putfield 15, 3) := by decide +kernel
theorem dX3_take_41 : decode cX3_take 41 = .ok (.iconst 1, 1) := by decide +kernel
theorem dX3_take_42 : decode cX3_take 42 = .ok (.ireturn, 1) := by decide +kernel
theorem dX3_isComplete_0 : decode cX3_isComplete 0 = .ok (.aload_n 0, 1) := by decide +kernel
theorem dX3_isComplete_1 : decode cX3_isComplete 1 = .ok (.getfield 9, 3) := by decide +kernel
theorem dX3_isComplete_4 : decode cX3_isComplete 4 = .ok (.ldc2_w 26, 3) := by decide +kernel
theorem dX3_isComplete_7 : decode cX3_isComplete 7 = .ok (.lxor, 1) := by decide +kernel
theorem dX3_isComplete_8 : decode cX3_isComplete 8 = .ok (.iload_n 1, 1) := by decide +kernel
theorem dX3_isComplete_9 : decode cX3_isComplete 9 = .ok (.invokestatic 28, 3) := by decide +kernel
theorem dX3_isComplete_12 : decode cX3_isComplete 12 = .ok (.land, 1) := by decide +kernel
theorem dX3_isComplete_13 : decode cX3_isComplete 13 = .ok (.lconst 0, 1) := by decide +kernel
theorem dX3_isComplete_14 : decode cX3_isComplete 14 = .ok (.lcmp, 1) := by decide +kernel
theorem dX3_isComplete_15 : decode cX3_isComplete 15 = .ok (.ifCond .ne 7, 3) := by decide +kernel
theorem dX3_isComplete_18 : decode cX3_isComplete 18 = .ok (.iconst 1, 1) := by decide +kernel
theorem dX3_isComplete_19 : decode cX3_isComplete 19 = .ok (.goto 4, 3) := by decide +kernel
theorem dX3_isComplete_22 : decode cX3_isComplete 22 = .ok (.iconst 0, 1) := by decide +kernel
theorem dX3_isComplete_23 : decode cX3_isComplete 23 = .ok (.ireturn, 1) := by decide +kernel
theorem dX3_isSound_0 : decode cX3_isSound 0 = .ok (.aload_n 0, 1) := by decide +kernel
theorem dX3_isSound_1 : decode cX3_isSound 1 = .ok (.getfield 15, 3) := by decide +kernel
theorem dX3_isSound_4 : decode cX3_isSound 4 = .ok (.iload_n 1, 1) := by decide +kernel
theorem dX3_isSound_5 : decode cX3_isSound 5 = .ok (.invokestatic 28, 3) := by decide +kernel
theorem dX3_isSound_8 : decode cX3_isSound 8 = .ok (.land, 1) := by decide +kernel
theorem dX3_isSound_9 : decode cX3_isSound 9 = .ok (.lconst 0, 1) := by decide +kernel
theorem dX3_isSound_10 : decode cX3_isSound 10 = .ok (.lcmp, 1) := by decide +kernel
theorem dX3_isSound_11 : decode cX3_isSound 11 = .ok (.ifCond .ne 7, 3) := by decide +kernel
theorem dX3_isSound_14 : decode cX3_isSound 14 = .ok (.iconst 1, 1) := by decide +kernel
theorem dX3_isSound_15 : decode cX3_isSound 15 = .ok (.goto 4, 3) := by decide +kernel
theorem dX3_isSound_18 : decode cX3_isSound 18 = .ok (.iconst 0, 1) := by decide +kernel
theorem dX3_isSound_19 : decode cX3_isSound 19 = .ok (.ireturn, 1) := by decide +kernel
theorem dX3_settleAll_0 : decode cX3_settleAll 0 = .ok (.iconst 0, 1) := by decide +kernel
theorem dX3_settleAll_1 : decode cX3_settleAll 1 = .ok (.istore_n 1, 1) := by decide +kernel
theorem dX3_settleAll_2 : decode cX3_settleAll 2 = .ok (.iload_n 1, 1) := by decide +kernel
theorem dX3_settleAll_3 : decode cX3_settleAll 3 = .ok (.bipush 12, 2) := by decide +kernel
theorem dX3_settleAll_5 : decode cX3_settleAll 5 = .ok (.if_icmp .ge 71, 3) := by decide +kernel
theorem dX3_settleAll_8 : decode cX3_settleAll 8 = .ok (.aload_n 0, 1) := by decide +kernel
theorem dX3_settleAll_9 : decode cX3_settleAll 9 = .ok (.iload_n 1, 1) := by decide +kernel
theorem dX3_settleAll_10 : decode cX3_settleAll 10 = .ok (.invokevirtual 32, 3) := by decide +kernel
theorem dX3_settleAll_13 : decode cX3_settleAll 13 = .ok (.ifCond .eq 57, 3) := by decide +kernel
theorem dX3_settleAll_16 : decode cX3_settleAll 16 = .ok (.aload_n 0, 1) := by decide +kernel
theorem dX3_settleAll_17 : decode cX3_settleAll 17 = .ok (.iload_n 1, 1) := by decide +kernel
theorem dX3_settleAll_18 : decode cX3_settleAll 18 = .ok (.invokevirtual 36, 3) := by decide +kernel
theorem dX3_settleAll_21 : decode cX3_settleAll 21 = .ok (.ifCond .eq 15, 3) := by decide +kernel
theorem dX3_settleAll_24 : decode cX3_settleAll 24 = .ok (.aload_n 0, 1) := by decide +kernel
theorem dX3_settleAll_25 : decode cX3_settleAll 25 = .ok (.dup, 1) := by decide +kernel
theorem dX3_settleAll_26 : decode cX3_settleAll 26 = .ok (.getfield 18, 3) := by decide +kernel
theorem dX3_settleAll_29 : decode cX3_settleAll 29 = .ok (.iconst 1, 1) := by decide +kernel
theorem dX3_settleAll_30 : decode cX3_settleAll 30 = .ok (.iload_n 1, 1) := by decide +kernel
theorem dX3_settleAll_31 : decode cX3_settleAll 31 = .ok (.ishl, 1) := by decide +kernel
theorem dX3_settleAll_32 : decode cX3_settleAll 32 = .ok (.ior, 1) := by decide +kernel
theorem dX3_settleAll_33 : decode cX3_settleAll 33 = .ok (.putfield 18, 3) := by decide +kernel
theorem dX3_settleAll_36 : decode cX3_settleAll 36 = .ok (.aload_n 0, 1) := by decide +kernel
theorem dX3_settleAll_37 : decode cX3_settleAll 37 = .ok (.dup, 1) := by decide +kernel
theorem dX3_settleAll_38 : decode cX3_settleAll 38 = .ok (.getfield 9, 3) := by decide +kernel
theorem dX3_settleAll_41 : decode cX3_settleAll 41 = .ok (.iload_n 1, 1) := by decide +kernel
theorem dX3_settleAll_42 : decode cX3_settleAll 42 = .ok (.invokestatic 28, 3) := by decide +kernel
theorem dX3_settleAll_45 : decode cX3_settleAll 45 = .ok (.ldc2_w 26, 3) := by decide +kernel
theorem dX3_settleAll_48 : decode cX3_settleAll 48 = .ok (.lxor, 1) := by decide +kernel
theorem dX3_settleAll_49 : decode cX3_settleAll 49 = .ok (.land, 1) := by decide +kernel
theorem dX3_settleAll_50 : decode cX3_settleAll 50 = .ok (.putfield 9, 3) := by decide +kernel
theorem dX3_settleAll_53 : decode cX3_settleAll 53 = .ok (.aload_n 0, 1) := by decide +kernel
theorem dX3_settleAll_54 : decode cX3_settleAll 54 = .ok (.dup, 1) := by decide +kernel
theorem dX3_settleAll_55 : decode cX3_settleAll 55 = .ok (.getfield 15, 3) := by decide +kernel
theorem dX3_settleAll_58 : decode cX3_settleAll 58 = .ok (.iload_n 1, 1) := by decide +kernel
theorem dX3_settleAll_59 : decode cX3_settleAll 59 = .ok (.invokestatic 28, 3) := by decide +kernel
theorem dX3_settleAll_62 : decode cX3_settleAll 62 = .ok (.ldc2_w 26, 3) := by decide +kernel
theorem dX3_settleAll_65 : decode cX3_settleAll 65 = .ok (.lxor, 1) := by decide +kernel
theorem dX3_settleAll_66 : decode cX3_settleAll 66 = .ok (.land, 1) := by decide +kernel
theorem dX3_settleAll_67 : decode cX3_settleAll 67 = .ok (.putfield 15, 3) := by decide +kernel
theorem dX3_settleAll_70 : decode cX3_settleAll 70 = .ok (.iinc 1 1, 3) := by decide +kernel
theorem dX3_settleAll_73 : decode cX3_settleAll 73 = .ok (.goto (-71), 3) := by decide +kernel
theorem dX3_settleAll_76 : decode cX3_settleAll 76 = .ok (.return_, 1) := by decide +kernel
theorem dX4_init_0 : decode cX4_init 0 = .ok (.aload_n 0, 1) := by decide +kernel
theorem dX4_init_1 : decode cX4_init 1 = .ok (.invokespecial 3, 3) := by decide +kernel
theorem dX4_init_4 : decode cX4_init 4 = .ok (.aload_n 0, 1) := by decide +kernel
theorem dX4_init_5 : decode cX4_init 5 = .ok (.bipush 6, 2) := by decide +kernel
theorem dX4_init_7 : decode cX4_init 7 = .ok (.anewarray 9, 3) := by decide +kernel
theorem dX4_init_10 : decode cX4_init 10 = .ok (.putfield 11, 3) := by decide +kernel
theorem dX4_init_13 : decode cX4_init 13 = .ok (.aload_n 0, 1) := by decide +kernel
theorem dX4_init_14 : decode cX4_init 14 = .ok (.bipush 12, 2) := by decide +kernel
theorem dX4_init_16 : decode cX4_init 16 = .ok (.newarray .int, 2) := by decide +kernel
theorem dX4_init_18 : decode cX4_init 18 = .ok (.putfield 15, 3) := by decide +kernel
theorem dX4_init_21 : decode cX4_init 21 = .ok (.aload_n 0, 1) := by decide +kernel
theorem dX4_init_22 : decode cX4_init 22 = .ok (.bipush 12, 2) := by decide +kernel
theorem dX4_init_24 : decode cX4_init 24 = .ok (.newarray .int, 2) := by decide +kernel
theorem dX4_init_26 : decode cX4_init 26 = .ok (.putfield 19, 3) := by decide +kernel
theorem dX4_init_29 : decode cX4_init 29 = .ok (.aload_n 0, 1) := by decide +kernel
theorem dX4_init_30 : decode cX4_init 30 = .ok (.iconst 0, 1) := by decide +kernel
theorem dX4_init_31 : decode cX4_init 31 = .ok (.putfield 22, 3) := by decide +kernel
theorem dX4_init_34 : decode cX4_init 34 = .ok (.aload_n 0, 1) := by decide +kernel
theorem dX4_init_35 : decode cX4_init 35 = .ok (.iconst 0, 1) := by decide +kernel
theorem dX4_init_36 : decode cX4_init 36 = .ok (.putfield 26, 3) := by decide +kernel
theorem dX4_init_39 : decode cX4_init 39 = .ok (.aload_n 0, 1) := by decide +kernel
theorem dX4_init_40 : decode cX4_init 40 = .ok (.getfield 15, 3) := by decide +kernel
theorem dX4_init_43 : decode cX4_init 43 = .ok (.iconst 1, 1) := by decide +kernel
theorem dX4_init_44 : decode cX4_init 44 = .ok (.invokestatic 29, 3) := by decide +kernel
theorem dX4_init_47 : decode cX4_init 47 = .ok (.return_, 1) := by decide +kernel
theorem dX4_join_0 : decode cX4_join 0 = .ok (.aload_n 0, 1) := by decide +kernel
theorem dX4_join_1 : decode cX4_join 1 = .ok (.getfield 22, 3) := by decide +kernel
theorem dX4_join_4 : decode cX4_join 4 = .ok (.aload_n 0, 1) := by decide +kernel
theorem dX4_join_5 : decode cX4_join 5 = .ok (.getfield 11, 3) := by decide +kernel
theorem dX4_join_8 : decode cX4_join 8 = .ok (.arraylength, 1) := by decide +kernel
theorem dX4_join_9 : decode cX4_join 9 = .ok (.if_icmp .lt 13, 3) := by decide +kernel
theorem dX4_join_12 : decode cX4_join 12 = .ok (.new 35, 3) := by decide +kernel
theorem dX4_join_15 : decode cX4_join 15 = .ok (.dup, 1) := by decide +kernel
theorem dX4_join_16 : decode cX4_join 16 = .ok (.ldc 37, 2) := by decide +kernel
theorem dX4_join_18 : decode cX4_join 18 = .ok (.invokespecial 39, 3) := by decide +kernel
theorem dX4_join_21 : decode cX4_join 21 = .ok (.athrow, 1) := by decide +kernel
theorem dX4_join_22 : decode cX4_join 22 = .ok (.aload_n 0, 1) := by decide +kernel
theorem dX4_join_23 : decode cX4_join 23 = .ok (.getfield 22, 3) := by decide +kernel
theorem dX4_join_26 : decode cX4_join 26 = .ok (.istore_n 2, 1) := by decide +kernel
theorem dX4_join_27 : decode cX4_join 27 = .ok (.aload_n 0, 1) := by decide +kernel
theorem dX4_join_28 : decode cX4_join 28 = .ok (.getfield 11, 3) := by decide +kernel
theorem dX4_join_31 : decode cX4_join 31 = .ok (.iload_n 2, 1) := by decide +kernel
theorem dX4_join_32 : decode cX4_join 32 = .ok (.new 9, 3) := by decide +kernel
theorem dX4_join_35 : decode cX4_join 35 = .ok (.dup, 1) := by decide +kernel
theorem dX4_join_36 : decode cX4_join 36 = .ok (.iload_n 2, 1) := by decide +kernel
theorem dX4_join_37 : decode cX4_join 37 = .ok (.iload_n 1, 1) := by decide +kernel
theorem dX4_join_38 : decode cX4_join 38 = .ok (.ifCond .eq 9, 3) := by decide +kernel
theorem dX4_join_41 : decode cX4_join 41 = .ok (.sipush 4095, 3) := by decide +kernel
theorem dX4_join_44 : decode cX4_join 44 = .ok (.goto 4, 3) := by decide +kernel
theorem dX4_join_47 : decode cX4_join 47 = .ok (.iconst 0, 1) := by decide +kernel
theorem dX4_join_48 : decode cX4_join 48 = .ok (.invokespecial 42, 3) := by decide +kernel
theorem dX4_join_51 : decode cX4_join 51 = .ok (.aastore, 1) := by decide +kernel
theorem dX4_join_52 : decode cX4_join 52 = .ok (.aload_n 0, 1) := by decide +kernel
theorem dX4_join_53 : decode cX4_join 53 = .ok (.dup, 1) := by decide +kernel
theorem dX4_join_54 : decode cX4_join 54 = .ok (.getfield 22, 3) := by decide +kernel
theorem dX4_join_57 : decode cX4_join 57 = .ok (.iconst 1, 1) := by decide +kernel
theorem dX4_join_58 : decode cX4_join 58 = .ok (.iadd, 1) := by decide +kernel
theorem dX4_join_59 : decode cX4_join 59 = .ok (.putfield 22, 3) := by decide +kernel
theorem dX4_join_62 : decode cX4_join 62 = .ok (.iload_n 2, 1) := by decide +kernel
theorem dX4_join_63 : decode cX4_join 63 = .ok (.ireturn, 1) := by decide +kernel
theorem dX4_leave_0 : decode cX4_leave 0 = .ok (.aload_n 0, 1) := by decide +kernel
theorem dX4_leave_1 : decode cX4_leave 1 = .ok (.iload_n 1, 1) := by decide +kernel
theorem dX4_leave_2 : decode cX4_leave 2 = .ok (.invokevirtual 45, 3) := by decide +kernel
theorem dX4_leave_5 : decode cX4_leave 5 = .ok (.astore_n 2, 1) := by decide +kernel
theorem dX4_leave_6 : decode cX4_leave 6 = .ok (.aload_n 0, 1) := by decide +kernel
theorem dX4_leave_7 : decode cX4_leave 7 = .ok (.getfield 11, 3) := by decide +kernel
theorem dX4_leave_10 : decode cX4_leave 10 = .ok (.aload_n 2, 1) := by decide +kernel
theorem dX4_leave_11 : decode cX4_leave 11 = .ok (.getfield 49, 3) := by decide +kernel
theorem dX4_leave_14 : decode cX4_leave 14 = .ok (.aconst_null, 1) := by decide +kernel
theorem dX4_leave_15 : decode cX4_leave 15 = .ok (.aastore, 1) := by decide +kernel
theorem dX4_leave_16 : decode cX4_leave 16 = .ok (.aload_n 2, 1) := by decide +kernel
theorem dX4_leave_17 : decode cX4_leave 17 = .ok (.getfield 52, 3) := by decide +kernel
theorem dX4_leave_20 : decode cX4_leave 20 = .ok (.getfield 56, 3) := by decide +kernel
theorem dX4_leave_23 : decode cX4_leave 23 = .ok (.invokestatic 61, 3) := by decide +kernel
theorem dX4_leave_26 : decode cX4_leave 26 = .ok (.ireturn, 1) := by decide +kernel
theorem dX4_setPriority_0 : decode cX4_setPriority 0 = .ok (.iload_n 1, 1) := by decide +kernel
theorem dX4_setPriority_1 : decode cX4_setPriority 1 = .ok (.invokestatic 67, 3) := by decide +kernel
theorem dX4_setPriority_4 : decode cX4_setPriority 4 = .ok (.iload_n 2, 1) := by decide +kernel
theorem dX4_setPriority_5 : decode cX4_setPriority 5 = .ok (.ifCond .lt 8, 3) := by decide +kernel
theorem dX4_setPriority_8 : decode cX4_setPriority 8 = .ok (.iload_n 2, 1) := by decide +kernel
theorem dX4_setPriority_9 : decode cX4_setPriority 9 = .ok (.iconst 3, 1) := by decide +kernel
theorem dX4_setPriority_10 : decode cX4_setPriority 10 = .ok (.if_icmp .le 13, 3) := by decide +kernel
theorem dX4_setPriority_13 : decode cX4_setPriority 13 = .ok (.new 71, 3) := by decide +kernel
theorem dX4_setPriority_16 : decode cX4_setPriority 16 = .ok (.dup, 1) := by decide +kernel
theorem dX4_setPriority_17 : decode cX4_setPriority 17 = .ok (.ldc 73, 2) := by decide +kernel
theorem dX4_setPriority_19 : decode cX4_setPriority 19 = .ok (.invokespecial 75, 3) := by decide +kernel
theorem dX4_setPriority_22 : decode cX4_setPriority 22 = .ok (.athrow, 1) := by decide +kernel
theorem dX4_setPriority_23 : decode cX4_setPriority 23 = .ok (.aload_n 0, 1) := by decide +kernel
theorem dX4_setPriority_24 : decode cX4_setPriority 24 = .ok (.getfield 15, 3) := by decide +kernel
theorem dX4_setPriority_27 : decode cX4_setPriority 27 = .ok (.iload_n 1, 1) := by decide +kernel
theorem dX4_setPriority_28 : decode cX4_setPriority 28 = .ok (.iaload, 1) := by decide +kernel
theorem dX4_setPriority_29 : decode cX4_setPriority 29 = .ok (.istore_n 3, 1) := by decide +kernel
theorem dX4_setPriority_30 : decode cX4_setPriority 30 = .ok (.aload_n 0, 1) := by decide +kernel
theorem dX4_setPriority_31 : decode cX4_setPriority 31 = .ok (.getfield 15, 3) := by decide +kernel
theorem dX4_setPriority_34 : decode cX4_setPriority 34 = .ok (.iload_n 1, 1) := by decide +kernel
theorem dX4_setPriority_35 : decode cX4_setPriority 35 = .ok (.iload_n 2, 1) := by decide +kernel
theorem dX4_setPriority_36 : decode cX4_setPriority 36 = .ok (.iastore, 1) := by decide +kernel
theorem dX4_setPriority_37 : decode cX4_setPriority 37 = .ok (.iload_n 3, 1) := by decide +kernel
theorem dX4_setPriority_38 : decode cX4_setPriority 38 = .ok (.ireturn, 1) := by decide +kernel
theorem dX4_setSequence_0 : decode cX4_setSequence 0 = .ok (.aload_n 0, 1) := by decide +kernel
theorem dX4_setSequence_1 : decode cX4_setSequence 1 = .ok (.iload_n 1, 1) := by decide +kernel
theorem dX4_setSequence_2 : decode cX4_setSequence 2 = .ok (.invokevirtual 45, 3) := by decide +kernel
theorem dX4_setSequence_5 : decode cX4_setSequence 5 = .ok (.astore_n 3, 1) := by decide +kernel
theorem dX4_setSequence_6 : decode cX4_setSequence 6 = .ok (.aload_n 3, 1) := by decide +kernel
theorem dX4_setSequence_7 : decode cX4_setSequence 7 = .ok (.getfield 76, 3) := by decide +kernel
theorem dX4_setSequence_10 : decode cX4_setSequence 10 = .ok (.iload_n 2, 1) := by decide +kernel
theorem dX4_setSequence_11 : decode cX4_setSequence 11 = .ok (.if_icmp .eq 7, 3) := by decide +kernel
theorem dX4_setSequence_14 : decode cX4_setSequence 14 = .ok (.iconst 1, 1) := by decide +kernel
theorem dX4_setSequence_15 : decode cX4_setSequence 15 = .ok (.goto 4, 3) := by decide +kernel
theorem dX4_setSequence_18 : decode cX4_setSequence 18 = .ok (.iconst 0, 1) := by decide +kernel
theorem dX4_setSequence_19 : decode cX4_setSequence 19 = .ok (.istore 4, 2) := by decide +kernel
theorem dX4_setSequence_21 : decode cX4_setSequence 21 = .ok (.aload_n 3, 1) := by decide +kernel
theorem dX4_setSequence_22 : decode cX4_setSequence 22 = .ok (.iload_n 2, 1) := by decide +kernel
theorem dX4_setSequence_23 : decode cX4_setSequence 23 = .ok (.putfield 76, 3) := by decide +kernel
theorem dX4_setSequence_26 : decode cX4_setSequence 26 = .ok (.iload 4, 2) := by decide +kernel
theorem dX4_setSequence_28 : decode cX4_setSequence 28 = .ok (.ireturn, 1) := by decide +kernel
theorem dX4_setCareful_0 : decode cX4_setCareful 0 = .ok (.aload_n 0, 1) := by decide +kernel
theorem dX4_setCareful_1 : decode cX4_setCareful 1 = .ok (.iload_n 1, 1) := by decide +kernel
theorem dX4_setCareful_2 : decode cX4_setCareful 2 = .ok (.invokevirtual 45, 3) := by decide +kernel
theorem dX4_setCareful_5 : decode cX4_setCareful 5 = .ok (.astore_n 3, 1) := by decide +kernel
theorem dX4_setCareful_6 : decode cX4_setCareful 6 = .ok (.aload_n 3, 1) := by decide +kernel
theorem dX4_setCareful_7 : decode cX4_setCareful 7 = .ok (.getfield 80, 3) := by decide +kernel
theorem dX4_setCareful_10 : decode cX4_setCareful 10 = .ok (.iload_n 2, 1) := by decide +kernel
theorem dX4_setCareful_11 : decode cX4_setCareful 11 = .ok (.if_icmp .eq 7, 3) := by decide +kernel
theorem dX4_setCareful_14 : decode cX4_setCareful 14 = .ok (.iconst 1, 1) := by decide +kernel
theorem dX4_setCareful_15 : decode cX4_setCareful 15 = .ok (.goto 4, 3) := by decide +kernel
theorem dX4_setCareful_18 : decode cX4_setCareful 18 = .ok (.iconst 0, 1) := by decide +kernel
theorem dX4_setCareful_19 : decode cX4_setCareful 19 = .ok (.istore 4, 2) := by decide +kernel
theorem dX4_setCareful_21 : decode cX4_setCareful 21 = .ok (.aload_n 3, 1) := by decide +kernel
theorem dX4_setCareful_22 : decode cX4_setCareful 22 = .ok (.iload_n 2, 1) := by decide +kernel
theorem dX4_setCareful_23 : decode cX4_setCareful 23 = .ok (.putfield 80, 3) := by decide +kernel
theorem dX4_setCareful_26 : decode cX4_setCareful 26 = .ok (.iload 4, 2) := by decide +kernel
theorem dX4_setCareful_28 : decode cX4_setCareful 28 = .ok (.ireturn, 1) := by decide +kernel
theorem dX4_spoil_0 : decode cX4_spoil 0 = .ok (.aload_n 0, 1) := by decide +kernel
theorem dX4_spoil_1 : decode cX4_spoil 1 = .ok (.iload_n 1, 1) := by decide +kernel
theorem dX4_spoil_2 : decode cX4_spoil 2 = .ok (.invokevirtual 45, 3) := by decide +kernel
theorem dX4_spoil_5 : decode cX4_spoil 5 = .ok (.astore 4, 2) := by decide +kernel
theorem dX4_spoil_7 : decode cX4_spoil 7 = .ok (.iload_n 2, 1) := by decide +kernel
theorem dX4_spoil_8 : decode cX4_spoil 8 = .ok (.invokestatic 67, 3) := by decide +kernel
theorem dX4_spoil_11 : decode cX4_spoil 11 = .ok (.aload 4, 2) := by decide +kernel
theorem dX4_spoil_13 : decode cX4_spoil 13 = .ok (.getfield 83, 3) := by decide +kernel
theorem dX4_spoil_16 : decode cX4_spoil 16 = .ok (.i2l, 1) := by decide +kernel
theorem dX4_spoil_17 : decode cX4_spoil 17 = .ok (.iload_n 2, 1) := by decide +kernel
theorem dX4_spoil_18 : decode cX4_spoil 18 = .ok (.invokestatic 86, 3) := by decide +kernel
theorem dX4_spoil_21 : decode cX4_spoil 21 = .ok (.iload_n 3, 1) := by decide +kernel
theorem dX4_spoil_22 : decode cX4_spoil 22 = .ok (.if_icmp .eq 7, 3) := by decide +kernel
theorem dX4_spoil_25 : decode cX4_spoil 25 = .ok (.iconst 1, 1) := by decide +kernel
theorem dX4_spoil_26 : decode cX4_spoil 26 = .ok (.goto 4, 3) := by decide +kernel
theorem dX4_spoil_29 : decode cX4_spoil 29 = .ok (.iconst 0, 1) := by decide +kernel
theorem dX4_spoil_30 : decode cX4_spoil 30 = .ok (.istore 5, 2) := by decide +kernel
theorem dX4_spoil_32 : decode cX4_spoil 32 = .ok (.iload 5, 2) := by decide +kernel
theorem dX4_spoil_34 : decode cX4_spoil 34 = .ok (.ifCond .eq 16, 3) := by decide +kernel
theorem dX4_spoil_37 : decode cX4_spoil 37 = .ok (.aload 4, 2) := by decide +kernel
theorem dX4_spoil_39 : decode cX4_spoil 39 = .ok (.dup, 1) := by decide +kernel
theorem dX4_spoil_40 : decode cX4_spoil 40 = .ok (.getfield 83, 3) := by decide +kernel
theorem dX4_spoil_43 : decode cX4_spoil 43 = .ok (.iconst 1, 1) := by decide +kernel
theorem dX4_spoil_44 : decode cX4_spoil 44 = .ok (.iload_n 2, 1) := by decide +kernel
theorem dX4_spoil_45 : decode cX4_spoil 45 = .ok (.ishl, 1) := by decide +kernel
theorem dX4_spoil_46 : decode cX4_spoil 46 = .ok (.ixor, 1) := by decide +kernel
theorem dX4_spoil_47 : decode cX4_spoil 47 = .ok (.putfield 83, 3) := by decide +kernel
theorem dX4_spoil_50 : decode cX4_spoil 50 = .ok (.iload 5, 2) := by decide +kernel
theorem dX4_spoil_52 : decode cX4_spoil 52 = .ok (.ireturn, 1) := by decide +kernel
theorem dX4_run_0 : decode cX4_run 0 = .ok (.iload_n 1, 1) := by decide +kernel
theorem dX4_run_1 : decode cX4_run 1 = .ok (.iconst 1, 1) := by decide +kernel
theorem dX4_run_2 : decode cX4_run 2 = .ok (.if_icmp .lt 9, 3) := by decide +kernel
theorem dX4_run_5 : decode cX4_run 5 = .ok (.iload_n 1, 1) := by decide +kernel
theorem dX4_run_6 : decode cX4_run 6 = .ok (.bipush 20, 2) := by decide +kernel
theorem dX4_run_8 : decode cX4_run 8 = .ok (.if_icmp .le 13, 3) := by decide +kernel
theorem dX4_run_11 : decode cX4_run 11 = .ok (.new 71, 3) := by decide +kernel
theorem dX4_run_14 : decode cX4_run 14 = .ok (.dup, 1) := by decide +kernel
theorem dX4_run_15 : decode cX4_run 15 = .ok (.ldc 90, 2) := by decide +kernel
theorem dX4_run_17 : decode cX4_run 17 = .ok (.invokespecial 75, 3) := by decide +kernel
theorem dX4_run_20 : decode cX4_run 20 = .ok (.athrow, 1) := by decide +kernel
theorem dX4_run_21 : decode cX4_run 21 = .ok (.aload_n 0, 1) := by decide +kernel
theorem dX4_run_22 : decode cX4_run 22 = .ok (.getfield 26, 3) := by decide +kernel
theorem dX4_run_25 : decode cX4_run 25 = .ok (.iload_n 1, 1) := by decide +kernel
theorem dX4_run_26 : decode cX4_run 26 = .ok (.iadd, 1) := by decide +kernel
theorem dX4_run_27 : decode cX4_run 27 = .ok (.sipush 200, 3) := by decide +kernel
theorem dX4_run_30 : decode cX4_run 30 = .ok (.if_icmp .le 13, 3) := by decide +kernel
theorem dX4_run_33 : decode cX4_run 33 = .ok (.new 35, 3) := by decide +kernel
theorem dX4_run_36 : decode cX4_run 36 = .ok (.dup, 1) := by decide +kernel
theorem dX4_run_37 : decode cX4_run 37 = .ok (.ldc 92, 2) := by decide +kernel
theorem dX4_run_39 : decode cX4_run 39 = .ok (.invokespecial 39, 3) := by decide +kernel
theorem dX4_run_42 : decode cX4_run 42 = .ok (.athrow, 1) := by decide +kernel
theorem dX4_run_43 : decode cX4_run 43 = .ok (.iconst 0, 1) := by decide +kernel
theorem dX4_run_44 : decode cX4_run 44 = .ok (.istore_n 2, 1) := by decide +kernel
theorem dX4_run_45 : decode cX4_run 45 = .ok (.iconst 0, 1) := by decide +kernel
theorem dX4_run_46 : decode cX4_run 46 = .ok (.istore_n 3, 1) := by decide +kernel
theorem dX4_run_47 : decode cX4_run 47 = .ok (.iload_n 3, 1) := by decide +kernel
theorem dX4_run_48 : decode cX4_run 48 = .ok (.iload_n 1, 1) := by decide +kernel
theorem dX4_run_49 : decode cX4_run 49 = .ok (.if_icmp .ge 16, 3) := by decide +kernel
theorem dX4_run_52 : decode cX4_run 52 = .ok (.iload_n 2, 1) := by decide +kernel
theorem dX4_run_53 : decode cX4_run 53 = .ok (.aload_n 0, 1) := by decide +kernel
theorem dX4_run_54 : decode cX4_run 54 = .ok (.invokevirtual 94, 3) := by decide +kernel
theorem dX4_run_57 : decode cX4_run 57 = .ok (.iadd, 1) := by decide +kernel
theorem dX4_run_58 : decode cX4_run 58 = .ok (.istore_n 2, 1) := by decide +kernel
theorem dX4_run_59 : decode cX4_run 59 = .ok (.iinc 3 1, 3) := by decide +kernel
theorem dX4_run_62 : decode cX4_run 62 = .ok (.goto (-15), 3) := by decide +kernel
theorem dX4_run_65 : decode cX4_run 65 = .ok (.iload_n 2, 1) := by decide +kernel
theorem dX4_run_66 : decode cX4_run 66 = .ok (.ireturn, 1) := by decide +kernel
theorem dX4_rounds_0 : decode cX4_rounds 0 = .ok (.aload_n 0, 1) := by decide +kernel
theorem dX4_rounds_1 : decode cX4_rounds 1 = .ok (.getfield 26, 3) := by decide +kernel
theorem dX4_rounds_4 : decode cX4_rounds 4 = .ok (.ireturn, 1) := by decide +kernel
theorem dX4_peers_0 : decode cX4_peers 0 = .ok (.iconst 0, 1) := by decide +kernel
theorem dX4_peers_1 : decode cX4_peers 1 = .ok (.istore_n 1, 1) := by decide +kernel
theorem dX4_peers_2 : decode cX4_peers 2 = .ok (.iconst 0, 1) := by decide +kernel
theorem dX4_peers_3 : decode cX4_peers 3 = .ok (.istore_n 2, 1) := by decide +kernel
theorem dX4_peers_4 : decode cX4_peers 4 = .ok (.iload_n 2, 1) := by decide +kernel
theorem dX4_peers_5 : decode cX4_peers 5 = .ok (.aload_n 0, 1) := by decide +kernel
theorem dX4_peers_6 : decode cX4_peers 6 = .ok (.getfield 11, 3) := by decide +kernel
theorem dX4_peers_9 : decode cX4_peers 9 = .ok (.arraylength, 1) := by decide +kernel
theorem dX4_peers_10 : decode cX4_peers 10 = .ok (.if_icmp .ge 24, 3) := by decide +kernel
theorem dX4_peers_13 : decode cX4_peers 13 = .ok (.aload_n 0, 1) := by decide +kernel
theorem dX4_peers_14 : decode cX4_peers 14 = .ok (.getfield 11, 3) := by decide +kernel
theorem dX4_peers_17 : decode cX4_peers 17 = .ok (.iload_n 2, 1) := by decide +kernel
theorem dX4_peers_18 : decode cX4_peers 18 = .ok (.aaload, 1) := by decide +kernel
theorem dX4_peers_19 : decode cX4_peers 19 = .ok (.ifnull 9, 3) := by decide +kernel
theorem dX4_peers_22 : decode cX4_peers 22 = .ok (.iload_n 1, 1) := by decide +kernel
theorem dX4_peers_23 : decode cX4_peers 23 = .ok (.iconst 1, 1) := by decide +kernel
theorem dX4_peers_24 : decode cX4_peers 24 = .ok (.iload_n 2, 1) := by decide +kernel
theorem dX4_peers_25 : decode cX4_peers 25 = .ok (.ishl, 1) := by decide +kernel
theorem dX4_peers_26 : decode cX4_peers 26 = .ok (.ior, 1) := by decide +kernel
theorem dX4_peers_27 : decode cX4_peers 27 = .ok (.istore_n 1, 1) := by decide +kernel
theorem dX4_peers_28 : decode cX4_peers 28 = .ok (.iinc 2 1, 3) := by decide +kernel
theorem dX4_peers_31 : decode cX4_peers 31 = .ok (.goto (-27), 3) := by decide +kernel
theorem dX4_peers_34 : decode cX4_peers 34 = .ok (.iload_n 1, 1) := by decide +kernel
theorem dX4_peers_35 : decode cX4_peers 35 = .ok (.ireturn, 1) := by decide +kernel
theorem dX4_holds_0 : decode cX4_holds 0 = .ok (.aload_n 0, 1) := by decide +kernel
theorem dX4_holds_1 : decode cX4_holds 1 = .ok (.iload_n 1, 1) := by decide +kernel
theorem dX4_holds_2 : decode cX4_holds 2 = .ok (.invokevirtual 45, 3) := by decide +kernel
theorem dX4_holds_5 : decode cX4_holds 5 = .ok (.getfield 52, 3) := by decide +kernel
theorem dX4_holds_8 : decode cX4_holds 8 = .ok (.getfield 56, 3) := by decide +kernel
theorem dX4_holds_11 : decode cX4_holds 11 = .ok (.ireturn, 1) := by decide +kernel
theorem dX4_holdsByLog_0 : decode cX4_holdsByLog 0 = .ok (.aload_n 0, 1) := by decide +kernel
theorem dX4_holdsByLog_1 : decode cX4_holdsByLog 1 = .ok (.iload_n 1, 1) := by decide +kernel
theorem dX4_holdsByLog_2 : decode cX4_holdsByLog 2 = .ok (.invokevirtual 45, 3) := by decide +kernel
theorem dX4_holdsByLog_5 : decode cX4_holdsByLog 5 = .ok (.getfield 98, 3) := by decide +kernel
theorem dX4_holdsByLog_8 : decode cX4_holdsByLog 8 = .ok (.invokevirtual 102, 3) := by decide +kernel
theorem dX4_holdsByLog_11 : decode cX4_holdsByLog 11 = .ok (.ireturn, 1) := by decide +kernel
theorem dX4_blocks_0 : decode cX4_blocks 0 = .ok (.aload_n 0, 1) := by decide +kernel
theorem dX4_blocks_1 : decode cX4_blocks 1 = .ok (.iload_n 1, 1) := by decide +kernel
theorem dX4_blocks_2 : decode cX4_blocks 2 = .ok (.invokevirtual 45, 3) := by decide +kernel
theorem dX4_blocks_5 : decode cX4_blocks 5 = .ok (.getfield 52, 3) := by decide +kernel
theorem dX4_blocks_8 : decode cX4_blocks 8 = .ok (.astore_n 3, 1) := by decide +kernel
theorem dX4_blocks_9 : decode cX4_blocks 9 = .ok (.iload_n 2, 1) := by decide +kernel
theorem dX4_blocks_10 : decode cX4_blocks 10 = .ok (.invokestatic 67, 3) := by decide +kernel
theorem dX4_blocks_13 : decode cX4_blocks 13 = .ok (.aload_n 3, 1) := by decide +kernel
theorem dX4_blocks_14 : decode cX4_blocks 14 = .ok (.getfield 56, 3) := by decide +kernel
theorem dX4_blocks_17 : decode cX4_blocks 17 = .ok (.i2l, 1) := by decide +kernel
theorem dX4_blocks_18 : decode cX4_blocks 18 = .ok (.iload_n 2, 1) := by decide +kernel
theorem dX4_blocks_19 : decode cX4_blocks 19 = .ok (.invokestatic 86, 3) := by decide +kernel
theorem dX4_blocks_22 : decode cX4_blocks 22 = .ok (.ifCond .eq 6, 3) := by decide +kernel
theorem dX4_blocks_25 : decode cX4_blocks 25 = .ok (.bipush 15, 2) := by decide +kernel
theorem dX4_blocks_27 : decode cX4_blocks 27 = .ok (.ireturn, 1) := by decide +kernel
theorem dX4_blocks_28 : decode cX4_blocks 28 = .ok (.aload_n 3, 1) := by decide +kernel
theorem dX4_blocks_29 : decode cX4_blocks 29 = .ok (.getfield 107, 3) := by decide +kernel
theorem dX4_blocks_32 : decode cX4_blocks 32 = .ok (.iload_n 2, 1) := by decide +kernel
theorem dX4_blocks_33 : decode cX4_blocks 33 = .ok (.iconst 4, 1) := by decide +kernel
theorem dX4_blocks_34 : decode cX4_blocks 34 = .ok (.imul, 1) := by decide +kernel
theorem dX4_blocks_35 : decode cX4_blocks 35 = .ok (.lshr, 1) := by decide +kernel
theorem dX4_blocks_36 : decode cX4_blocks 36 = .ok (.l2i, 1) := by decide +kernel
theorem dX4_blocks_37 : decode cX4_blocks 37 = .ok (.bipush 15, 2) := by decide +kernel
theorem dX4_blocks_39 : decode cX4_blocks 39 = .ok (.iand, 1) := by decide +kernel
theorem dX4_blocks_40 : decode cX4_blocks 40 = .ok (.ireturn, 1) := by decide +kernel
theorem dX4_holders_0 : decode cX4_holders 0 = .ok (.iload_n 1, 1) := by decide +kernel
theorem dX4_holders_1 : decode cX4_holders 1 = .ok (.invokestatic 67, 3) := by decide +kernel
theorem dX4_holders_4 : decode cX4_holders 4 = .ok (.aload_n 0, 1) := by decide +kernel
theorem dX4_holders_5 : decode cX4_holders 5 = .ok (.iload_n 1, 1) := by decide +kernel
theorem dX4_holders_6 : decode cX4_holders 6 = .ok (.invokevirtual 111, 3) := by decide +kernel
theorem dX4_holders_9 : decode cX4_holders 9 = .ok (.ireturn, 1) := by decide +kernel
theorem dX4_shown_0 : decode cX4_shown 0 = .ok (.aload_n 0, 1) := by decide +kernel
theorem dX4_shown_1 : decode cX4_shown 1 = .ok (.aload_n 0, 1) := by decide +kernel
theorem dX4_shown_2 : decode cX4_shown 2 = .ok (.iload_n 1, 1) := by decide +kernel
theorem dX4_shown_3 : decode cX4_shown 3 = .ok (.invokevirtual 45, 3) := by decide +kernel
theorem dX4_shown_6 : decode cX4_shown 6 = .ok (.aload_n 0, 1) := by decide +kernel
theorem dX4_shown_7 : decode cX4_shown 7 = .ok (.iload_n 2, 1) := by decide +kernel
theorem dX4_shown_8 : decode cX4_shown 8 = .ok (.invokevirtual 45, 3) := by decide +kernel
theorem dX4_shown_11 : decode cX4_shown 11 = .ok (.invokevirtual 114, 3) := by decide +kernel
theorem dX4_shown_14 : decode cX4_shown 14 = .ok (.ireturn, 1) := by decide +kernel
theorem dX4_chosen_0 : decode cX4_chosen 0 = .ok (.aload_n 0, 1) := by decide +kernel
theorem dX4_chosen_1 : decode cX4_chosen 1 = .ok (.aload_n 0, 1) := by decide +kernel
theorem dX4_chosen_2 : decode cX4_chosen 2 = .ok (.iload_n 1, 1) := by decide +kernel
theorem dX4_chosen_3 : decode cX4_chosen 3 = .ok (.invokevirtual 45, 3) := by decide +kernel
theorem dX4_chosen_6 : decode cX4_chosen 6 = .ok (.invokevirtual 118, 3) := by decide +kernel
theorem dX4_chosen_9 : decode cX4_chosen 9 = .ok (.ireturn, 1) := by decide +kernel
theorem dX4_got_0 : decode cX4_got 0 = .ok (.aload_n 0, 1) := by decide +kernel
theorem dX4_got_1 : decode cX4_got 1 = .ok (.iload_n 1, 1) := by decide +kernel
theorem dX4_got_2 : decode cX4_got 2 = .ok (.invokevirtual 45, 3) := by decide +kernel
theorem dX4_got_5 : decode cX4_got 5 = .ok (.getfield 122, 3) := by decide +kernel
theorem dX4_got_8 : decode cX4_got 8 = .ok (.aload_n 0, 1) := by decide +kernel
theorem dX4_got_9 : decode cX4_got 9 = .ok (.iload_n 2, 1) := by decide +kernel
theorem dX4_got_10 : decode cX4_got 10 = .ok (.invokevirtual 45, 3) := by decide +kernel
theorem dX4_got_13 : decode cX4_got 13 = .ok (.getfield 49, 3) := by decide +kernel
theorem dX4_got_16 : decode cX4_got 16 = .ok (.iaload, 1) := by decide +kernel
theorem dX4_got_17 : decode cX4_got 17 = .ok (.ireturn, 1) := by decide +kernel
theorem dX4_doubles_0 : decode cX4_doubles 0 = .ok (.aload_n 0, 1) := by decide +kernel
theorem dX4_doubles_1 : decode cX4_doubles 1 = .ok (.iload_n 1, 1) := by decide +kernel
theorem dX4_doubles_2 : decode cX4_doubles 2 = .ok (.invokevirtual 45, 3) := by decide +kernel
theorem dX4_doubles_5 : decode cX4_doubles 5 = .ok (.getfield 125, 3) := by decide +kernel
theorem dX4_doubles_8 : decode cX4_doubles 8 = .ok (.ireturn, 1) := by decide +kernel
theorem dX4_strikes_0 : decode cX4_strikes 0 = .ok (.aload_n 0, 1) := by decide +kernel
theorem dX4_strikes_1 : decode cX4_strikes 1 = .ok (.iload_n 1, 1) := by decide +kernel
theorem dX4_strikes_2 : decode cX4_strikes 2 = .ok (.invokevirtual 45, 3) := by decide +kernel
theorem dX4_strikes_5 : decode cX4_strikes 5 = .ok (.getfield 128, 3) := by decide +kernel
theorem dX4_strikes_8 : decode cX4_strikes 8 = .ok (.aload_n 0, 1) := by decide +kernel
theorem dX4_strikes_9 : decode cX4_strikes 9 = .ok (.iload_n 2, 1) := by decide +kernel
theorem dX4_strikes_10 : decode cX4_strikes 10 = .ok (.invokevirtual 45, 3) := by decide +kernel
theorem dX4_strikes_13 : decode cX4_strikes 13 = .ok (.getfield 49, 3) := by decide +kernel
theorem dX4_strikes_16 : decode cX4_strikes 16 = .ok (.iaload, 1) := by decide +kernel
theorem dX4_strikes_17 : decode cX4_strikes 17 = .ok (.ireturn, 1) := by decide +kernel
theorem dX4_isBanned_0 : decode cX4_isBanned 0 = .ok (.aload_n 0, 1) := by decide +kernel
theorem dX4_isBanned_1 : decode cX4_isBanned 1 = .ok (.iload_n 1, 1) := by decide +kernel
theorem dX4_isBanned_2 : decode cX4_isBanned 2 = .ok (.invokevirtual 45, 3) := by decide +kernel
theorem dX4_isBanned_5 : decode cX4_isBanned 5 = .ok (.getfield 131, 3) := by decide +kernel
theorem dX4_isBanned_8 : decode cX4_isBanned 8 = .ok (.i2l, 1) := by decide +kernel
theorem dX4_isBanned_9 : decode cX4_isBanned 9 = .ok (.aload_n 0, 1) := by decide +kernel
theorem dX4_isBanned_10 : decode cX4_isBanned 10 = .ok (.iload_n 2, 1) := by decide +kernel
theorem dX4_isBanned_11 : decode cX4_isBanned 11 = .ok (.invokevirtual 45, 3) := by decide +kernel
theorem dX4_isBanned_14 : decode cX4_isBanned 14 = .ok (.getfield 49, 3) := by decide +kernel
theorem dX4_isBanned_17 : decode cX4_isBanned 17 = .ok (.invokestatic 86, 3) := by decide +kernel
theorem dX4_isBanned_20 : decode cX4_isBanned 20 = .ok (.ireturn, 1) := by decide +kernel
theorem dX4_known_0 : decode cX4_known 0 = .ok (.aload_n 0, 1) := by decide +kernel
theorem dX4_known_1 : decode cX4_known 1 = .ok (.iload_n 1, 1) := by decide +kernel
theorem dX4_known_2 : decode cX4_known 2 = .ok (.invokevirtual 134, 3) := by decide +kernel
theorem dX4_known_5 : decode cX4_known 5 = .ok (.astore_n 2, 1) := by decide +kernel
theorem dX4_known_6 : decode cX4_known 6 = .ok (.aload_n 2, 1) := by decide +kernel
theorem dX4_known_7 : decode cX4_known 7 = .ok (.ifnonnull 13, 3) := by decide +kernel
theorem dX4_known_10 : decode cX4_known 10 = .ok (.new 137, 3) := by decide +kernel
theorem dX4_known_13 : decode cX4_known 13 = .ok (.dup, 1) := by decide +kernel
theorem dX4_known_14 : decode cX4_known 14 = .ok (.ldc 139, 2) := by decide +kernel
theorem dX4_known_16 : decode cX4_known 16 = .ok (.invokespecial 141, 3) := by decide +kernel
theorem dX4_known_19 : decode cX4_known 19 = .ok (.athrow, 1) := by decide +kernel
theorem dX4_known_20 : decode cX4_known 20 = .ok (.aload_n 2, 1) := by decide +kernel
theorem dX4_known_21 : decode cX4_known 21 = .ok (.areturn, 1) := by decide +kernel
theorem dX4_find_0 : decode cX4_find 0 = .ok (.iload_n 1, 1) := by decide +kernel
theorem dX4_find_1 : decode cX4_find 1 = .ok (.ifCond .lt 12, 3) := by decide +kernel
theorem dX4_find_4 : decode cX4_find 4 = .ok (.iload_n 1, 1) := by decide +kernel
theorem dX4_find_5 : decode cX4_find 5 = .ok (.aload_n 0, 1) := by decide +kernel
theorem dX4_find_6 : decode cX4_find 6 = .ok (.getfield 11, 3) := by decide +kernel
theorem dX4_find_9 : decode cX4_find 9 = .ok (.arraylength, 1) := by decide +kernel
theorem dX4_find_10 : decode cX4_find 10 = .ok (.if_icmp .lt 7, 3) := by decide +kernel
theorem dX4_find_13 : decode cX4_find 13 = .ok (.aconst_null, 1) := by decide +kernel
theorem dX4_find_14 : decode cX4_find 14 = .ok (.goto 9, 3) := by decide +kernel
theorem dX4_find_17 : decode cX4_find 17 = .ok (.aload_n 0, 1) := by decide +kernel
theorem dX4_find_18 : decode cX4_find 18 = .ok (.getfield 11, 3) := by decide +kernel
theorem dX4_find_21 : decode cX4_find 21 = .ok (.iload_n 1, 1) := by decide +kernel
theorem dX4_find_22 : decode cX4_find 22 = .ok (.aaload, 1) := by decide +kernel
theorem dX4_find_23 : decode cX4_find 23 = .ok (.areturn, 1) := by decide +kernel
theorem dX4_checkPiece_0 : decode cX4_checkPiece 0 = .ok (.iload_n 0, 1) := by decide +kernel
theorem dX4_checkPiece_1 : decode cX4_checkPiece 1 = .ok (.ifCond .lt 9, 3) := by decide +kernel
theorem dX4_checkPiece_4 : decode cX4_checkPiece 4 = .ok (.iload_n 0, 1) := by decide +kernel
theorem dX4_checkPiece_5 : decode cX4_checkPiece 5 = .ok (.bipush 12, 2) := by decide +kernel
theorem dX4_checkPiece_7 : decode cX4_checkPiece 7 = .ok (.if_icmp .lt 13, 3) := by decide +kernel
theorem dX4_checkPiece_10 : decode cX4_checkPiece 10 = .ok (.new 137, 3) := by decide +kernel
theorem dX4_checkPiece_13 : decode cX4_checkPiece 13 = .ok (.dup, 1) := by decide +kernel
theorem dX4_checkPiece_14 : decode cX4_checkPiece 14 = .ok (.ldc 142, 2) := by decide +kernel
theorem dX4_checkPiece_16 : decode cX4_checkPiece 16 = .ok (.invokespecial 141, 3) := by decide +kernel
theorem dX4_checkPiece_19 : decode cX4_checkPiece 19 = .ok (.athrow, 1) := by decide +kernel
theorem dX4_checkPiece_20 : decode cX4_checkPiece 20 = .ok (.return_, 1) := by decide +kernel
theorem dX4_countHolders_0 : decode cX4_countHolders 0 = .ok (.iconst 0, 1) := by decide +kernel
theorem dX4_countHolders_1 : decode cX4_countHolders 1 = .ok (.istore_n 2, 1) := by decide +kernel
theorem dX4_countHolders_2 : decode cX4_countHolders 2 = .ok (.aload_n 0, 1) := by decide +kernel
theorem dX4_countHolders_3 : decode cX4_countHolders 3 = .ok (.getfield 11, 3) := by decide +kernel
theorem dX4_countHolders_6 : decode cX4_countHolders 6 = .ok (.astore_n 3, 1) := by decide +kernel
theorem dX4_countHolders_7 : decode cX4_countHolders 7 = .ok (.aload_n 3, 1) := by decide +kernel
theorem dX4_countHolders_8 : decode cX4_countHolders 8 = .ok (.arraylength, 1) := by decide +kernel
theorem dX4_countHolders_9 : decode cX4_countHolders 9 = .ok (.istore 4, 2) := by decide +kernel
theorem dX4_countHolders_11 : decode cX4_countHolders 11 = .ok (.iconst 0, 1) := by decide +kernel
theorem dX4_countHolders_12 : decode cX4_countHolders 12 = .ok (.istore 5, 2) := by decide +kernel
theorem dX4_countHolders_14 : decode cX4_countHolders 14 = .ok (.iload 5, 2) := by decide +kernel
theorem dX4_countHolders_16 : decode cX4_countHolders 16 = .ok (.iload 4, 2) := by decide +kernel
theorem dX4_countHolders_18 : decode cX4_countHolders 18 = .ok (.if_icmp .ge 39, 3) := by decide +kernel
theorem dX4_countHolders_21 : decode cX4_countHolders 21 = .ok (.aload_n 3, 1) := by decide +kernel
theorem dX4_countHolders_22 : decode cX4_countHolders 22 = .ok (.iload 5, 2) := by decide +kernel
theorem dX4_countHolders_24 : decode cX4_countHolders 24 = .ok (.aaload, 1) := by decide +kernel
theorem dX4_countHolders_25 : decode cX4_countHolders 25 = .ok (.astore 6, 2) := by decide +kernel
theorem dX4_countHolders_27 : decode cX4_countHolders 27 = .ok (.aload 6, 2) := by decide +kernel
theorem dX4_countHolders_29 : decode cX4_countHolders 29 = .ok (.ifnull 22, 3) := by decide +kernel
theorem dX4_countHolders_32 : decode cX4_countHolders 32 = .ok (.aload 6, 2) := by decide +kernel
theorem dX4_countHolders_34 : decode cX4_countHolders 34 = .ok (.getfield 52, 3) := by decide +kernel
theorem dX4_countHolders_37 : decode cX4_countHolders 37 = .ok (.getfield 56, 3) := by decide +kernel
theorem dX4_countHolders_40 : decode cX4_countHolders 40 = .ok (.i2l, 1) := by decide +kernel
theorem dX4_countHolders_41 : decode cX4_countHolders 41 = .ok (.iload_n 1, 1) := by decide +kernel
theorem dX4_countHolders_42 : decode cX4_countHolders 42 = .ok (.invokestatic 86, 3) := by decide +kernel
theorem dX4_countHolders_45 : decode cX4_countHolders 45 = .ok (.ifCond .eq 6, 3) := by decide +kernel
theorem dX4_countHolders_48 : decode cX4_countHolders 48 = .ok (.iinc 2 1, 3) := by decide +kernel
theorem dX4_countHolders_51 : decode cX4_countHolders 51 = .ok (.iinc 5 1, 3) := by decide +kernel
theorem dX4_countHolders_54 : decode cX4_countHolders 54 = .ok (.goto (-40), 3) := by decide +kernel
theorem dX4_countHolders_57 : decode cX4_countHolders 57 = .ok (.iload_n 2, 1) := by decide +kernel
theorem dX4_countHolders_58 : decode cX4_countHolders 58 = .ok (.ireturn, 1) := by decide +kernel
theorem dX4_wantedPieces_0 : decode cX4_wantedPieces 0 = .ok (.iconst 0, 1) := by decide +kernel
theorem dX4_wantedPieces_1 : decode cX4_wantedPieces 1 = .ok (.istore_n 1, 1) := by decide +kernel
theorem dX4_wantedPieces_2 : decode cX4_wantedPieces 2 = .ok (.iconst 0, 1) := by decide +kernel
theorem dX4_wantedPieces_3 : decode cX4_wantedPieces 3 = .ok (.istore_n 2, 1) := by decide +kernel
theorem dX4_wantedPieces_4 : decode cX4_wantedPieces 4 = .ok (.iload_n 2, 1) := by decide +kernel
theorem dX4_wantedPieces_5 : decode cX4_wantedPieces 5 = .ok (.aload_n 0, 1) := by decide +kernel
theorem dX4_wantedPieces_6 : decode cX4_wantedPieces 6 = .ok (.getfield 15, 3) := by decide +kernel
theorem dX4_wantedPieces_9 : decode cX4_wantedPieces 9 = .ok (.arraylength, 1) := by decide +kernel
theorem dX4_wantedPieces_10 : decode cX4_wantedPieces 10 = .ok (.if_icmp .ge 24, 3) := by decide +kernel
theorem dX4_wantedPieces_13 : decode cX4_wantedPieces 13 = .ok (.aload_n 0, 1) := by decide +kernel
theorem dX4_wantedPieces_14 : decode cX4_wantedPieces 14 = .ok (.getfield 15, 3) := by decide +kernel
theorem dX4_wantedPieces_17 : decode cX4_wantedPieces 17 = .ok (.iload_n 2, 1) := by decide +kernel
theorem dX4_wantedPieces_18 : decode cX4_wantedPieces 18 = .ok (.iaload, 1) := by decide +kernel
theorem dX4_wantedPieces_19 : decode cX4_wantedPieces 19 = .ok (.ifCond .le 9, 3) := by decide +kernel
theorem dX4_wantedPieces_22 : decode cX4_wantedPieces 22 = .ok (.iload_n 1, 1) := by decide +kernel
theorem dX4_wantedPieces_23 : decode cX4_wantedPieces 23 = .ok (.iconst 1, 1) := by decide +kernel
theorem dX4_wantedPieces_24 : decode cX4_wantedPieces 24 = .ok (.iload_n 2, 1) := by decide +kernel
theorem dX4_wantedPieces_25 : decode cX4_wantedPieces 25 = .ok (.ishl, 1) := by decide +kernel
theorem dX4_wantedPieces_26 : decode cX4_wantedPieces 26 = .ok (.ior, 1) := by decide +kernel
theorem dX4_wantedPieces_27 : decode cX4_wantedPieces 27 = .ok (.istore_n 1, 1) := by decide +kernel
theorem dX4_wantedPieces_28 : decode cX4_wantedPieces 28 = .ok (.iinc 2 1, 3) := by decide +kernel
theorem dX4_wantedPieces_31 : decode cX4_wantedPieces 31 = .ok (.goto (-27), 3) := by decide +kernel
theorem dX4_wantedPieces_34 : decode cX4_wantedPieces 34 = .ok (.iload_n 1, 1) := by decide +kernel
theorem dX4_wantedPieces_35 : decode cX4_wantedPieces 35 = .ok (.ireturn, 1) := by decide +kernel
theorem dX4_findShown_0 : decode cX4_findShown 0 = .ok (.aload_n 1, 1) := by decide +kernel
theorem dX4_findShown_1 : decode cX4_findShown 1 = .ok (.aload_n 2, 1) := by decide +kernel
theorem dX4_findShown_2 : decode cX4_findShown 2 = .ok (.if_acmp .ne 5, 3) := by decide +kernel
theorem dX4_findShown_5 : decode cX4_findShown 5 = .ok (.iconst 0, 1) := by decide +kernel
theorem dX4_findShown_6 : decode cX4_findShown 6 = .ok (.ireturn, 1) := by decide +kernel
theorem dX4_findShown_7 : decode cX4_findShown 7 = .ok (.aload_n 1, 1) := by decide +kernel
theorem dX4_findShown_8 : decode cX4_findShown 8 = .ok (.getfield 80, 3) := by decide +kernel
theorem dX4_findShown_11 : decode cX4_findShown 11 = .ok (.ifCond .ne 11, 3) := by decide +kernel
theorem dX4_findShown_14 : decode cX4_findShown 14 = .ok (.aload_n 1, 1) := by decide +kernel
theorem dX4_findShown_15 : decode cX4_findShown 15 = .ok (.getfield 52, 3) := by decide +kernel
theorem dX4_findShown_18 : decode cX4_findShown 18 = .ok (.getfield 56, 3) := by decide +kernel
theorem dX4_findShown_21 : decode cX4_findShown 21 = .ok (.ireturn, 1) := by decide +kernel
theorem dX4_findShown_22 : decode cX4_findShown 22 = .ok (.aload_n 0, 1) := by decide +kernel
theorem dX4_findShown_23 : decode cX4_findShown 23 = .ok (.aload_n 1, 1) := by decide +kernel
theorem dX4_findShown_24 : decode cX4_findShown 24 = .ok (.getfield 52, 3) := by decide +kernel
theorem dX4_findShown_27 : decode cX4_findShown 27 = .ok (.getfield 56, 3) := by decide +kernel
theorem dX4_findShown_30 : decode cX4_findShown 30 = .ok (.aload_n 2, 1) := by decide +kernel
theorem dX4_findShown_31 : decode cX4_findShown 31 = .ok (.getfield 52, 3) := by decide +kernel
theorem dX4_findShown_34 : decode cX4_findShown 34 = .ok (.getfield 56, 3) := by decide +kernel
theorem dX4_findShown_37 : decode cX4_findShown 37 = .ok (.iconst (-1), 1) := by decide +kernel
theorem dX4_findShown_38 : decode cX4_findShown 38 = .ok (.ixor, 1) := by decide +kernel
theorem dX4_findShown_39 : decode cX4_findShown 39 = .ok (.iand, 1) := by decide +kernel
theorem dX4_findShown_40 : decode cX4_findShown 40 = .ok (.aload_n 2, 1) := by decide +kernel
theorem dX4_findShown_41 : decode cX4_findShown 41 = .ok (.getfield 49, 3) := by decide +kernel
theorem dX4_findShown_44 : decode cX4_findShown 44 = .ok (.invokevirtual 144, 3) := by decide +kernel
theorem dX4_findShown_47 : decode cX4_findShown 47 = .ok (.istore_n 3, 1) := by decide +kernel
theorem dX4_findShown_48 : decode cX4_findShown 48 = .ok (.iload_n 3, 1) := by decide +kernel
theorem dX4_findShown_49 : decode cX4_findShown 49 = .ok (.iconst (-1), 1) := by decide +kernel
theorem dX4_findShown_50 : decode cX4_findShown 50 = .ok (.if_icmp .ne 7, 3) := by decide +kernel
theorem dX4_findShown_53 : decode cX4_findShown 53 = .ok (.iconst 0, 1) := by decide +kernel
theorem dX4_findShown_54 : decode cX4_findShown 54 = .ok (.goto 6, 3) := by decide +kernel
theorem dX4_findShown_57 : decode cX4_findShown 57 = .ok (.iconst 1, 1) := by decide +kernel
theorem dX4_findShown_58 : decode cX4_findShown 58 = .ok (.iload_n 3, 1) := by decide +kernel
theorem dX4_findShown_59 : decode cX4_findShown 59 = .ok (.ishl, 1) := by decide +kernel
theorem dX4_findShown_60 : decode cX4_findShown 60 = .ok (.ireturn, 1) := by decide +kernel
theorem dX4_findRarest_0 : decode cX4_findRarest 0 = .ok (.iconst (-1), 1) := by decide +kernel
theorem dX4_findRarest_1 : decode cX4_findRarest 1 = .ok (.istore_n 3, 1) := by decide +kernel
theorem dX4_findRarest_2 : decode cX4_findRarest 2 = .ok (.iconst 0, 1) := by decide +kernel
theorem dX4_findRarest_3 : decode cX4_findRarest 3 = .ok (.istore 4, 2) := by decide +kernel
theorem dX4_findRarest_5 : decode cX4_findRarest 5 = .ok (.iconst 0, 1) := by decide +kernel
theorem dX4_findRarest_6 : decode cX4_findRarest 6 = .ok (.istore 5, 2) := by decide +kernel
theorem dX4_findRarest_8 : decode cX4_findRarest 8 = .ok (.iload 5, 2) := by decide +kernel
theorem dX4_findRarest_10 : decode cX4_findRarest 10 = .ok (.bipush 12, 2) := by decide +kernel
theorem dX4_findRarest_12 : decode cX4_findRarest 12 = .ok (.if_icmp .ge 55, 3) := by decide +kernel
theorem dX4_findRarest_15 : decode cX4_findRarest 15 = .ok (.iload_n 2, 1) := by decide +kernel
theorem dX4_findRarest_16 : decode cX4_findRarest 16 = .ok (.iload 5, 2) := by decide +kernel
theorem dX4_findRarest_18 : decode cX4_findRarest 18 = .ok (.iadd, 1) := by decide +kernel
theorem dX4_findRarest_19 : decode cX4_findRarest 19 = .ok (.bipush 12, 2) := by decide +kernel
theorem dX4_findRarest_21 : decode cX4_findRarest 21 = .ok (.irem, 1) := by decide +kernel
theorem dX4_findRarest_22 : decode cX4_findRarest 22 = .ok (.istore 6, 2) := by decide +kernel
theorem dX4_findRarest_24 : decode cX4_findRarest 24 = .ok (.iload_n 1, 1) := by decide +kernel
theorem dX4_findRarest_25 : decode cX4_findRarest 25 = .ok (.i2l, 1) := by decide +kernel
theorem dX4_findRarest_26 : decode cX4_findRarest 26 = .ok (.iload 6, 2) := by decide +kernel
theorem dX4_findRarest_28 : decode cX4_findRarest 28 = .ok (.invokestatic 86, 3) := by decide +kernel
theorem dX4_findRarest_31 : decode cX4_findRarest 31 = .ok (.ifCond .eq 30, 3) := by decide +kernel
theorem dX4_findRarest_34 : decode cX4_findRarest 34 = .ok (.aload_n 0, 1) := by decide +kernel
theorem dX4_findRarest_35 : decode cX4_findRarest 35 = .ok (.iload 6, 2) := by decide +kernel
theorem dX4_findRarest_37 : decode cX4_findRarest 37 = .ok (.invokevirtual 111, 3) := by decide +kernel
theorem dX4_findRarest_40 : decode cX4_findRarest 40 = .ok (.istore 7, 2) := by decide +kernel
theorem dX4_findRarest_42 : decode cX4_findRarest 42 = .ok (.iload_n 3, 1) := by decide +kernel
theorem dX4_findRarest_43 : decode cX4_findRarest 43 = .ok (.iconst (-1), 1) := by decide +kernel
theorem dX4_findRarest_44 : decode cX4_findRarest 44 = .ok (.if_icmp .eq 10, 3) := by decide +kernel
theorem dX4_findRarest_47 : decode cX4_findRarest 47 = .ok (.iload 7, 2) := by decide +kernel
theorem dX4_findRarest_49 : decode cX4_findRarest 49 = .ok (.iload 4, 2) := by decide +kernel
theorem dX4_findRarest_51 : decode cX4_findRarest 51 = .ok (.if_icmp .ge 10, 3) := by decide +kernel
theorem dX4_findRarest_54 : decode cX4_findRarest 54 = .ok (.iload 6, 2) := by decide +kernel
theorem dX4_findRarest_56 : decode cX4_findRarest 56 = .ok (.istore_n 3, 1) := by decide +kernel
theorem dX4_findRarest_57 : decode cX4_findRarest 57 = .ok (.iload 7, 2) := by decide +kernel
theorem dX4_findRarest_59 : decode cX4_findRarest 59 = .ok (.istore 4, 2) := by decide +kernel
theorem dX4_findRarest_61 : decode cX4_findRarest 61 = .ok (.iinc 5 1, 3) := by decide +kernel
theorem dX4_findRarest_64 : decode cX4_findRarest 64 = .ok (.goto (-56), 3) := by decide +kernel
theorem dX4_findRarest_67 : decode cX4_findRarest 67 = .ok (.iload_n 3, 1) := by decide +kernel
theorem dX4_findRarest_68 : decode cX4_findRarest 68 = .ok (.ireturn, 1) := by decide +kernel
theorem dX4_findChosen_0 : decode cX4_findChosen 0 = .ok (.aload_n 0, 1) := by decide +kernel
theorem dX4_findChosen_1 : decode cX4_findChosen 1 = .ok (.aload_n 1, 1) := by decide +kernel
theorem dX4_findChosen_2 : decode cX4_findChosen 2 = .ok (.invokevirtual 148, 3) := by decide +kernel
theorem dX4_findChosen_5 : decode cX4_findChosen 5 = .ok (.istore_n 2, 1) := by decide +kernel
theorem dX4_findChosen_6 : decode cX4_findChosen 6 = .ok (.iconst 0, 1) := by decide +kernel
theorem dX4_findChosen_7 : decode cX4_findChosen 7 = .ok (.istore_n 3, 1) := by decide +kernel
theorem dX4_findChosen_8 : decode cX4_findChosen 8 = .ok (.iconst 0, 1) := by decide +kernel
theorem dX4_findChosen_9 : decode cX4_findChosen 9 = .ok (.istore 4, 2) := by decide +kernel
theorem dX4_findChosen_11 : decode cX4_findChosen 11 = .ok (.iload 4, 2) := by decide +kernel
theorem dX4_findChosen_13 : decode cX4_findChosen 13 = .ok (.iconst 2, 1) := by decide +kernel
theorem dX4_findChosen_14 : decode cX4_findChosen 14 = .ok (.if_icmp .ge 34, 3) := by decide +kernel
theorem dX4_findChosen_17 : decode cX4_findChosen 17 = .ok (.aload_n 1, 1) := by decide +kernel
theorem dX4_findChosen_18 : decode cX4_findChosen 18 = .ok (.iload_n 2, 1) := by decide +kernel
theorem dX4_findChosen_19 : decode cX4_findChosen 19 = .ok (.invokestatic 151, 3) := by decide +kernel
theorem dX4_findChosen_22 : decode cX4_findChosen 22 = .ok (.istore 5, 2) := by decide +kernel
theorem dX4_findChosen_24 : decode cX4_findChosen 24 = .ok (.iload_n 3, 1) := by decide +kernel
theorem dX4_findChosen_25 : decode cX4_findChosen 25 = .ok (.iload 5, 2) := by decide +kernel
theorem dX4_findChosen_27 : decode cX4_findChosen 27 = .ok (.invokestatic 155, 3) := by decide +kernel
theorem dX4_findChosen_30 : decode cX4_findChosen 30 = .ok (.ior, 1) := by decide +kernel
theorem dX4_findChosen_31 : decode cX4_findChosen 31 = .ok (.istore_n 3, 1) := by decide +kernel
theorem dX4_findChosen_32 : decode cX4_findChosen 32 = .ok (.iload_n 2, 1) := by decide +kernel
theorem dX4_findChosen_33 : decode cX4_findChosen 33 = .ok (.iload 5, 2) := by decide +kernel
theorem dX4_findChosen_35 : decode cX4_findChosen 35 = .ok (.invokestatic 155, 3) := by decide +kernel
theorem dX4_findChosen_38 : decode cX4_findChosen 38 = .ok (.iconst (-1), 1) := by decide +kernel
theorem dX4_findChosen_39 : decode cX4_findChosen 39 = .ok (.ixor, 1) := by decide +kernel
theorem dX4_findChosen_40 : decode cX4_findChosen 40 = .ok (.iand, 1) := by decide +kernel
theorem dX4_findChosen_41 : decode cX4_findChosen 41 = .ok (.istore_n 2, 1) := by decide +kernel
theorem dX4_findChosen_42 : decode cX4_findChosen 42 = .ok (.iinc 4 1, 3) := by decide +kernel
theorem dX4_findChosen_45 : decode cX4_findChosen 45 = .ok (.goto (-34), 3) := by decide +kernel
theorem dX4_findChosen_48 : decode cX4_findChosen 48 = .ok (.iload_n 3, 1) := by decide +kernel
theorem dX4_findChosen_49 : decode cX4_findChosen 49 = .ok (.aload_n 0, 1) := by decide +kernel
theorem dX4_findChosen_50 : decode cX4_findChosen 50 = .ok (.iload_n 2, 1) := by decide +kernel
theorem dX4_findChosen_51 : decode cX4_findChosen 51 = .ok (.invokevirtual 158, 3) := by decide +kernel
theorem dX4_findChosen_54 : decode cX4_findChosen 54 = .ok (.invokestatic 155, 3) := by decide +kernel
theorem dX4_findChosen_57 : decode cX4_findChosen 57 = .ok (.ior, 1) := by decide +kernel
theorem dX4_findChosen_58 : decode cX4_findChosen 58 = .ok (.ireturn, 1) := by decide +kernel
theorem dX4_findInterested_0 : decode cX4_findInterested 0 = .ok (.aload_n 0, 1) := by decide +kernel
theorem dX4_findInterested_1 : decode cX4_findInterested 1 = .ok (.invokevirtual 161, 3) := by decide +kernel
theorem dX4_findInterested_4 : decode cX4_findInterested 4 = .ok (.istore_n 2, 1) := by decide +kernel
theorem dX4_findInterested_5 : decode cX4_findInterested 5 = .ok (.iconst 0, 1) := by decide +kernel
theorem dX4_findInterested_6 : decode cX4_findInterested 6 = .ok (.istore_n 3, 1) := by decide +kernel
theorem dX4_findInterested_7 : decode cX4_findInterested 7 = .ok (.aload_n 0, 1) := by decide +kernel
theorem dX4_findInterested_8 : decode cX4_findInterested 8 = .ok (.getfield 11, 3) := by decide +kernel
theorem dX4_findInterested_11 : decode cX4_findInterested 11 = .ok (.astore 4, 2) := by decide +kernel
theorem dX4_findInterested_13 : decode cX4_findInterested 13 = .ok (.aload 4, 2) := by decide +kernel
theorem dX4_findInterested_15 : decode cX4_findInterested 15 = .ok (.arraylength, 1) := by decide +kernel
theorem dX4_findInterested_16 : decode cX4_findInterested 16 = .ok (.istore 5, 2) := by decide +kernel
theorem dX4_findInterested_18 : decode cX4_findInterested 18 = .ok (.iconst 0, 1) := by decide +kernel
theorem dX4_findInterested_19 : decode cX4_findInterested 19 = .ok (.istore 6, 2) := by decide +kernel
theorem dX4_findInterested_21 : decode cX4_findInterested 21 = .ok (.iload 6, 2) := by decide +kernel
theorem dX4_findInterested_23 : decode cX4_findInterested 23 = .ok (.iload 5, 2) := by decide +kernel
theorem dX4_findInterested_25 : decode cX4_findInterested 25 = .ok (.if_icmp .ge 76, 3) := by decide +kernel
theorem dX4_findInterested_28 : decode cX4_findInterested 28 = .ok (.aload 4, 2) := by decide +kernel
theorem dX4_findInterested_30 : decode cX4_findInterested 30 = .ok (.iload 6, 2) := by decide +kernel
theorem dX4_findInterested_32 : decode cX4_findInterested 32 = .ok (.aaload, 1) := by decide +kernel
theorem dX4_findInterested_33 : decode cX4_findInterested 33 = .ok (.astore 7, 2) := by decide +kernel
theorem dX4_findInterested_35 : decode cX4_findInterested 35 = .ok (.aload 7, 2) := by decide +kernel
theorem dX4_findInterested_37 : decode cX4_findInterested 37 = .ok (.ifnull 58, 3) := by decide +kernel
theorem dX4_findInterested_40 : decode cX4_findInterested 40 = .ok (.aload 7, 2) := by decide +kernel
theorem dX4_findInterested_42 : decode cX4_findInterested 42 = .ok (.aload_n 1, 1) := by decide +kernel
theorem dX4_findInterested_43 : decode cX4_findInterested 43 = .ok (.if_acmp .eq 52, 3) := by decide +kernel
theorem dX4_findInterested_46 : decode cX4_findInterested 46 = .ok (.aload 7, 2) := by decide +kernel
theorem dX4_findInterested_48 : decode cX4_findInterested 48 = .ok (.getfield 131, 3) := by decide +kernel
theorem dX4_findInterested_51 : decode cX4_findInterested 51 = .ok (.i2l, 1) := by decide +kernel
theorem dX4_findInterested_52 : decode cX4_findInterested 52 = .ok (.aload_n 1, 1) := by decide +kernel
theorem dX4_findInterested_53 : decode cX4_findInterested 53 = .ok (.getfield 49, 3) := by decide +kernel
theorem dX4_findInterested_56 : decode cX4_findInterested 56 = .ok (.invokestatic 86, 3) := by decide +kernel
theorem dX4_findInterested_59 : decode cX4_findInterested 59 = .ok (.ifCond .ne 36, 3) := by decide +kernel
theorem dX4_findInterested_62 : decode cX4_findInterested 62 = .ok (.aload_n 0, 1) := by decide +kernel
theorem dX4_findInterested_63 : decode cX4_findInterested 63 = .ok (.aload_n 1, 1) := by decide +kernel
theorem dX4_findInterested_64 : decode cX4_findInterested 64 = .ok (.aload 7, 2) := by decide +kernel
theorem dX4_findInterested_66 : decode cX4_findInterested 66 = .ok (.invokevirtual 114, 3) := by decide +kernel
theorem dX4_findInterested_69 : decode cX4_findInterested 69 = .ok (.iload_n 2, 1) := by decide +kernel
theorem dX4_findInterested_70 : decode cX4_findInterested 70 = .ok (.iand, 1) := by decide +kernel
theorem dX4_findInterested_71 : decode cX4_findInterested 71 = .ok (.aload 7, 2) := by decide +kernel
theorem dX4_findInterested_73 : decode cX4_findInterested 73 = .ok (.getfield 52, 3) := by decide +kernel
theorem dX4_findInterested_76 : decode cX4_findInterested 76 = .ok (.getfield 56, 3) := by decide +kernel
theorem dX4_findInterested_79 : decode cX4_findInterested 79 = .ok (.iconst (-1), 1) := by decide +kernel
theorem dX4_findInterested_80 : decode cX4_findInterested 80 = .ok (.ixor, 1) := by decide +kernel
theorem dX4_findInterested_81 : decode cX4_findInterested 81 = .ok (.iand, 1) := by decide +kernel
theorem dX4_findInterested_82 : decode cX4_findInterested 82 = .ok (.ifCond .eq 13, 3) := by decide +kernel
theorem dX4_findInterested_85 : decode cX4_findInterested 85 = .ok (.iload_n 3, 1) := by decide +kernel
theorem dX4_findInterested_86 : decode cX4_findInterested 86 = .ok (.iconst 1, 1) := by decide +kernel
theorem dX4_findInterested_87 : decode cX4_findInterested 87 = .ok (.aload 7, 2) := by decide +kernel
theorem dX4_findInterested_89 : decode cX4_findInterested 89 = .ok (.getfield 49, 3) := by decide +kernel
theorem dX4_findInterested_92 : decode cX4_findInterested 92 = .ok (.ishl, 1) := by decide +kernel
theorem dX4_findInterested_93 : decode cX4_findInterested 93 = .ok (.ior, 1) := by decide +kernel
theorem dX4_findInterested_94 : decode cX4_findInterested 94 = .ok (.istore_n 3, 1) := by decide +kernel
theorem dX4_findInterested_95 : decode cX4_findInterested 95 = .ok (.iinc 6 1, 3) := by decide +kernel
theorem dX4_findInterested_98 : decode cX4_findInterested 98 = .ok (.goto (-77), 3) := by decide +kernel
theorem dX4_findInterested_101 : decode cX4_findInterested 101 = .ok (.iload_n 3, 1) := by decide +kernel
theorem dX4_findInterested_102 : decode cX4_findInterested 102 = .ok (.ireturn, 1) := by decide +kernel
theorem dX4_findBestGiver_0 : decode cX4_findBestGiver 0 = .ok (.iconst (-1), 1) := by decide +kernel
theorem dX4_findBestGiver_1 : decode cX4_findBestGiver 1 = .ok (.istore_n 2, 1) := by decide +kernel
theorem dX4_findBestGiver_2 : decode cX4_findBestGiver 2 = .ok (.iconst 0, 1) := by decide +kernel
theorem dX4_findBestGiver_3 : decode cX4_findBestGiver 3 = .ok (.istore_n 3, 1) := by decide +kernel
theorem dX4_findBestGiver_4 : decode cX4_findBestGiver 4 = .ok (.iconst 0, 1) := by decide +kernel
theorem dX4_findBestGiver_5 : decode cX4_findBestGiver 5 = .ok (.istore 4, 2) := by decide +kernel
theorem dX4_findBestGiver_7 : decode cX4_findBestGiver 7 = .ok (.iload 4, 2) := by decide +kernel
theorem dX4_findBestGiver_9 : decode cX4_findBestGiver 9 = .ok (.aload_n 0, 1) := by decide +kernel
theorem dX4_findBestGiver_10 : decode cX4_findBestGiver 10 = .ok (.getfield 122, 3) := by decide +kernel
theorem dX4_findBestGiver_13 : decode cX4_findBestGiver 13 = .ok (.arraylength, 1) := by decide +kernel
theorem dX4_findBestGiver_14 : decode cX4_findBestGiver 14 = .ok (.if_icmp .ge 46, 3) := by decide +kernel
theorem dX4_findBestGiver_17 : decode cX4_findBestGiver 17 = .ok (.iload_n 1, 1) := by decide +kernel
theorem dX4_findBestGiver_18 : decode cX4_findBestGiver 18 = .ok (.i2l, 1) := by decide +kernel
theorem dX4_findBestGiver_19 : decode cX4_findBestGiver 19 = .ok (.iload 4, 2) := by decide +kernel
theorem dX4_findBestGiver_21 : decode cX4_findBestGiver 21 = .ok (.invokestatic 86, 3) := by decide +kernel
theorem dX4_findBestGiver_24 : decode cX4_findBestGiver 24 = .ok (.ifCond .eq 30, 3) := by decide +kernel
theorem dX4_findBestGiver_27 : decode cX4_findBestGiver 27 = .ok (.iload_n 2, 1) := by decide +kernel
theorem dX4_findBestGiver_28 : decode cX4_findBestGiver 28 = .ok (.iconst (-1), 1) := by decide +kernel
theorem dX4_findBestGiver_29 : decode cX4_findBestGiver 29 = .ok (.if_icmp .eq 14, 3) := by decide +kernel
theorem dX4_findBestGiver_32 : decode cX4_findBestGiver 32 = .ok (.aload_n 0, 1) := by decide +kernel
theorem dX4_findBestGiver_33 : decode cX4_findBestGiver 33 = .ok (.getfield 122, 3) := by decide +kernel
theorem dX4_findBestGiver_36 : decode cX4_findBestGiver 36 = .ok (.iload 4, 2) := by decide +kernel
theorem dX4_findBestGiver_38 : decode cX4_findBestGiver 38 = .ok (.iaload, 1) := by decide +kernel
theorem dX4_findBestGiver_39 : decode cX4_findBestGiver 39 = .ok (.iload_n 3, 1) := by decide +kernel
theorem dX4_findBestGiver_40 : decode cX4_findBestGiver 40 = .ok (.if_icmp .le 14, 3) := by decide +kernel
theorem dX4_findBestGiver_43 : decode cX4_findBestGiver 43 = .ok (.iload 4, 2) := by decide +kernel
theorem dX4_findBestGiver_45 : decode cX4_findBestGiver 45 = .ok (.istore_n 2, 1) := by decide +kernel
theorem dX4_findBestGiver_46 : decode cX4_findBestGiver 46 = .ok (.aload_n 0, 1) := by decide +kernel
theorem dX4_findBestGiver_47 : decode cX4_findBestGiver 47 = .ok (.getfield 122, 3) := by decide +kernel
theorem dX4_findBestGiver_50 : decode cX4_findBestGiver 50 = .ok (.iload 4, 2) := by decide +kernel
theorem dX4_findBestGiver_52 : decode cX4_findBestGiver 52 = .ok (.iaload, 1) := by decide +kernel
theorem dX4_findBestGiver_53 : decode cX4_findBestGiver 53 = .ok (.istore_n 3, 1) := by decide +kernel
theorem dX4_findBestGiver_54 : decode cX4_findBestGiver 54 = .ok (.iinc 4 1, 3) := by decide +kernel
theorem dX4_findBestGiver_57 : decode cX4_findBestGiver 57 = .ok (.goto (-50), 3) := by decide +kernel
theorem dX4_findBestGiver_60 : decode cX4_findBestGiver 60 = .ok (.iload_n 2, 1) := by decide +kernel
theorem dX4_findBestGiver_61 : decode cX4_findBestGiver 61 = .ok (.ireturn, 1) := by decide +kernel
theorem dX4_findNextInTurn_0 : decode cX4_findNextInTurn 0 = .ok (.iconst 0, 1) := by decide +kernel
theorem dX4_findNextInTurn_1 : decode cX4_findNextInTurn 1 = .ok (.istore_n 2, 1) := by decide +kernel
theorem dX4_findNextInTurn_2 : decode cX4_findNextInTurn 2 = .ok (.iload_n 2, 1) := by decide +kernel
theorem dX4_findNextInTurn_3 : decode cX4_findNextInTurn 3 = .ok (.bipush 6, 2) := by decide +kernel
theorem dX4_findNextInTurn_5 : decode cX4_findNextInTurn 5 = .ok (.if_icmp .ge 30, 3) := by decide +kernel
theorem dX4_findNextInTurn_8 : decode cX4_findNextInTurn 8 = .ok (.aload_n 0, 1) := by decide +kernel
theorem dX4_findNextInTurn_9 : decode cX4_findNextInTurn 9 = .ok (.getfield 26, 3) := by decide +kernel
theorem dX4_findNextInTurn_12 : decode cX4_findNextInTurn 12 = .ok (.iload_n 2, 1) := by decide +kernel
theorem dX4_findNextInTurn_13 : decode cX4_findNextInTurn 13 = .ok (.iadd, 1) := by decide +kernel
theorem dX4_findNextInTurn_14 : decode cX4_findNextInTurn 14 = .ok (.bipush 6, 2) := by decide +kernel
theorem dX4_findNextInTurn_16 : decode cX4_findNextInTurn 16 = .ok (.irem, 1) := by decide +kernel
theorem dX4_findNextInTurn_17 : decode cX4_findNextInTurn 17 = .ok (.istore_n 3, 1) := by decide +kernel
theorem dX4_findNextInTurn_18 : decode cX4_findNextInTurn 18 = .ok (.iload_n 1, 1) := by decide +kernel
theorem dX4_findNextInTurn_19 : decode cX4_findNextInTurn 19 = .ok (.i2l, 1) := by decide +kernel
theorem dX4_findNextInTurn_20 : decode cX4_findNextInTurn 20 = .ok (.iload_n 3, 1) := by decide +kernel
theorem dX4_findNextInTurn_21 : decode cX4_findNextInTurn 21 = .ok (.invokestatic 86, 3) := by decide +kernel
theorem dX4_findNextInTurn_24 : decode cX4_findNextInTurn 24 = .ok (.ifCond .eq 5, 3) := by decide +kernel
theorem dX4_findNextInTurn_27 : decode cX4_findNextInTurn 27 = .ok (.iload_n 3, 1) := by decide +kernel
theorem dX4_findNextInTurn_28 : decode cX4_findNextInTurn 28 = .ok (.ireturn, 1) := by decide +kernel
theorem dX4_findNextInTurn_29 : decode cX4_findNextInTurn 29 = .ok (.iinc 2 1, 3) := by decide +kernel
theorem dX4_findNextInTurn_32 : decode cX4_findNextInTurn 32 = .ok (.goto (-30), 3) := by decide +kernel
theorem dX4_findNextInTurn_35 : decode cX4_findNextInTurn 35 = .ok (.iconst (-1), 1) := by decide +kernel
theorem dX4_findNextInTurn_36 : decode cX4_findNextInTurn 36 = .ok (.ireturn, 1) := by decide +kernel
theorem dX4_runRound_0 : decode cX4_runRound 0 = .ok (.aload_n 0, 1) := by decide +kernel
theorem dX4_runRound_1 : decode cX4_runRound 1 = .ok (.invokevirtual 164, 3) := by decide +kernel
theorem dX4_runRound_4 : decode cX4_runRound 4 = .ok (.aload_n 0, 1) := by decide +kernel
theorem dX4_runRound_5 : decode cX4_runRound 5 = .ok (.invokevirtual 167, 3) := by decide +kernel
theorem dX4_runRound_8 : decode cX4_runRound 8 = .ok (.aload_n 0, 1) := by decide +kernel
theorem dX4_runRound_9 : decode cX4_runRound 9 = .ok (.invokevirtual 170, 3) := by decide +kernel
theorem dX4_runRound_12 : decode cX4_runRound 12 = .ok (.istore_n 1, 1) := by decide +kernel
theorem dX4_runRound_13 : decode cX4_runRound 13 = .ok (.aload_n 0, 1) := by decide +kernel
theorem dX4_runRound_14 : decode cX4_runRound 14 = .ok (.getfield 11, 3) := by decide +kernel
theorem dX4_runRound_17 : decode cX4_runRound 17 = .ok (.astore_n 2, 1) := by decide +kernel
theorem dX4_runRound_18 : decode cX4_runRound 18 = .ok (.aload_n 2, 1) := by decide +kernel
theorem dX4_runRound_19 : decode cX4_runRound 19 = .ok (.arraylength, 1) := by decide +kernel
theorem dX4_runRound_20 : decode cX4_runRound 20 = .ok (.istore_n 3, 1) := by decide +kernel
theorem dX4_runRound_21 : decode cX4_runRound 21 = .ok (.iconst 0, 1) := by decide +kernel
theorem dX4_runRound_22 : decode cX4_runRound 22 = .ok (.istore 4, 2) := by decide +kernel
theorem dX4_runRound_24 : decode cX4_runRound 24 = .ok (.iload 4, 2) := by decide +kernel
theorem dX4_runRound_26 : decode cX4_runRound 26 = .ok (.iload_n 3, 1) := by decide +kernel
theorem dX4_runRound_27 : decode cX4_runRound 27 = .ok (.if_icmp .ge 25, 3) := by decide +kernel
theorem dX4_runRound_30 : decode cX4_runRound 30 = .ok (.aload_n 2, 1) := by decide +kernel
theorem dX4_runRound_31 : decode cX4_runRound 31 = .ok (.iload 4, 2) := by decide +kernel
theorem dX4_runRound_33 : decode cX4_runRound 33 = .ok (.aaload, 1) := by decide +kernel
theorem dX4_runRound_34 : decode cX4_runRound 34 = .ok (.astore 5, 2) := by decide +kernel
theorem dX4_runRound_36 : decode cX4_runRound 36 = .ok (.aload 5, 2) := by decide +kernel
theorem dX4_runRound_38 : decode cX4_runRound 38 = .ok (.ifnull 8, 3) := by decide +kernel
theorem dX4_runRound_41 : decode cX4_runRound 41 = .ok (.aload 5, 2) := by decide +kernel
theorem dX4_runRound_43 : decode cX4_runRound 43 = .ok (.invokestatic 173, 3) := by decide +kernel
theorem dX4_runRound_46 : decode cX4_runRound 46 = .ok (.iinc 4 1, 3) := by decide +kernel
theorem dX4_runRound_49 : decode cX4_runRound 49 = .ok (.goto (-25), 3) := by decide +kernel
theorem dX4_runRound_52 : decode cX4_runRound 52 = .ok (.aload_n 0, 1) := by decide +kernel
theorem dX4_runRound_53 : decode cX4_runRound 53 = .ok (.dup, 1) := by decide +kernel
theorem dX4_runRound_54 : decode cX4_runRound 54 = .ok (.getfield 26, 3) := by decide +kernel
theorem dX4_runRound_57 : decode cX4_runRound 57 = .ok (.iconst 1, 1) := by decide +kernel
theorem dX4_runRound_58 : decode cX4_runRound 58 = .ok (.iadd, 1) := by decide +kernel
theorem dX4_runRound_59 : decode cX4_runRound 59 = .ok (.putfield 26, 3) := by decide +kernel
theorem dX4_runRound_62 : decode cX4_runRound 62 = .ok (.iload_n 1, 1) := by decide +kernel
theorem dX4_runRound_63 : decode cX4_runRound 63 = .ok (.ireturn, 1) := by decide +kernel
theorem dX4_begin_0 : decode cX4_begin 0 = .ok (.iconst 0, 1) := by decide +kernel
theorem dX4_begin_1 : decode cX4_begin 1 = .ok (.istore_n 1, 1) := by decide +kernel
theorem dX4_begin_2 : decode cX4_begin 2 = .ok (.iload_n 1, 1) := by decide +kernel
theorem dX4_begin_3 : decode cX4_begin 3 = .ok (.aload_n 0, 1) := by decide +kernel
theorem dX4_begin_4 : decode cX4_begin 4 = .ok (.getfield 19, 3) := by decide +kernel
end
section
theorem dX4_begin_7 : decode cX4_begin 7 = .ok (.arraylength, 1) := by decide +kernel
theorem dX4_begin_8 : decode cX4_begin 8 = .ok (.if_icmp .ge 20, 3) := by decide +kernel
theorem dX4_begin_11 : decode cX4_begin 11 = .ok (.aload_n 0, 1) := by decide +kernel
theorem dX4_begin_12 : decode cX4_begin 12 = .ok (.getfield 19, 3) := by decide +kernel
theorem dX4_begin_15 : decode cX4_begin 15 = .ok (.iload_n 1, 1) := by decide +kernel
theorem dX4_begin_16 : decode cX4_begin 16 = .ok (.aload_n 0, 1) := by decide +kernel
theorem dX4_begin_17 : decode cX4_begin 17 = .ok (.iload_n 1, 1) := by decide +kernel
theorem dX4_begin_18 : decode cX4_begin 18 = .ok (.invokevirtual 111, 3) := by decide +kernel
theorem dX4_begin_21 : decode cX4_begin 21 = .ok (.iastore, 1) := by decide +kernel
theorem dX4_begin_22 : decode cX4_begin 22 = .ok (.iinc 1 1, 3) := by decide +kernel
theorem dX4_begin_25 : decode cX4_begin 25 = .ok (.goto (-23), 3) := by decide +kernel
theorem dX4_begin_28 : decode cX4_begin 28 = .ok (.aload_n 0, 1) := by decide +kernel
theorem dX4_begin_29 : decode cX4_begin 29 = .ok (.getfield 11, 3) := by decide +kernel
theorem dX4_begin_32 : decode cX4_begin 32 = .ok (.astore_n 1, 1) := by decide +kernel
theorem dX4_begin_33 : decode cX4_begin 33 = .ok (.aload_n 1, 1) := by decide +kernel
theorem dX4_begin_34 : decode cX4_begin 34 = .ok (.arraylength, 1) := by decide +kernel
theorem dX4_begin_35 : decode cX4_begin 35 = .ok (.istore_n 2, 1) := by decide +kernel
theorem dX4_begin_36 : decode cX4_begin 36 = .ok (.iconst 0, 1) := by decide +kernel
theorem dX4_begin_37 : decode cX4_begin 37 = .ok (.istore_n 3, 1) := by decide +kernel
theorem dX4_begin_38 : decode cX4_begin 38 = .ok (.iload_n 3, 1) := by decide +kernel
theorem dX4_begin_39 : decode cX4_begin 39 = .ok (.iload_n 2, 1) := by decide +kernel
theorem dX4_begin_40 : decode cX4_begin 40 = .ok (.if_icmp .ge 44, 3) := by decide +kernel
theorem dX4_begin_43 : decode cX4_begin 43 = .ok (.aload_n 1, 1) := by decide +kernel
theorem dX4_begin_44 : decode cX4_begin 44 = .ok (.iload_n 3, 1) := by decide +kernel
theorem dX4_begin_45 : decode cX4_begin 45 = .ok (.aaload, 1) := by decide +kernel
theorem dX4_begin_46 : decode cX4_begin 46 = .ok (.astore 4, 2) := by decide +kernel
theorem dX4_begin_48 : decode cX4_begin 48 = .ok (.aload 4, 2) := by decide +kernel
theorem dX4_begin_50 : decode cX4_begin 50 = .ok (.ifnull 28, 3) := by decide +kernel
theorem dX4_begin_53 : decode cX4_begin 53 = .ok (.aload 4, 2) := by decide +kernel
theorem dX4_begin_55 : decode cX4_begin 55 = .ok (.getfield 177, 3) := by decide +kernel
theorem dX4_begin_58 : decode cX4_begin 58 = .ok (.invokevirtual 181, 3) := by decide +kernel
theorem dX4_begin_61 : decode cX4_begin 61 = .ok (.aload 4, 2) := by decide +kernel
theorem dX4_begin_63 : decode cX4_begin 63 = .ok (.aload_n 0, 1) := by decide +kernel
theorem dX4_begin_64 : decode cX4_begin 64 = .ok (.aload 4, 2) := by decide +kernel
theorem dX4_begin_66 : decode cX4_begin 66 = .ok (.invokevirtual 118, 3) := by decide +kernel
theorem dX4_begin_69 : decode cX4_begin 69 = .ok (.putfield 186, 3) := by decide +kernel
theorem dX4_begin_72 : decode cX4_begin 72 = .ok (.aload_n 0, 1) := by decide +kernel
theorem dX4_begin_73 : decode cX4_begin 73 = .ok (.aload 4, 2) := by decide +kernel
theorem dX4_begin_75 : decode cX4_begin 75 = .ok (.invokevirtual 189, 3) := by decide +kernel
theorem dX4_begin_78 : decode cX4_begin 78 = .ok (.iinc 3 1, 3) := by decide +kernel
theorem dX4_begin_81 : decode cX4_begin 81 = .ok (.goto (-43), 3) := by decide +kernel
theorem dX4_begin_84 : decode cX4_begin 84 = .ok (.return_, 1) := by decide +kernel
theorem dX4_beginShowing_0 : decode cX4_beginShowing 0 = .ok (.aload_n 0, 1) := by decide +kernel
theorem dX4_beginShowing_1 : decode cX4_beginShowing 1 = .ok (.getfield 11, 3) := by decide +kernel
theorem dX4_beginShowing_4 : decode cX4_beginShowing 4 = .ok (.astore_n 2, 1) := by decide +kernel
theorem dX4_beginShowing_5 : decode cX4_beginShowing 5 = .ok (.aload_n 2, 1) := by decide +kernel
theorem dX4_beginShowing_6 : decode cX4_beginShowing 6 = .ok (.arraylength, 1) := by decide +kernel
theorem dX4_beginShowing_7 : decode cX4_beginShowing 7 = .ok (.istore_n 3, 1) := by decide +kernel
theorem dX4_beginShowing_8 : decode cX4_beginShowing 8 = .ok (.iconst 0, 1) := by decide +kernel
theorem dX4_beginShowing_9 : decode cX4_beginShowing 9 = .ok (.istore 4, 2) := by decide +kernel
theorem dX4_beginShowing_11 : decode cX4_beginShowing 11 = .ok (.iload 4, 2) := by decide +kernel
theorem dX4_beginShowing_13 : decode cX4_beginShowing 13 = .ok (.iload_n 3, 1) := by decide +kernel
theorem dX4_beginShowing_14 : decode cX4_beginShowing 14 = .ok (.if_icmp .ge 37, 3) := by decide +kernel
theorem dX4_beginShowing_17 : decode cX4_beginShowing 17 = .ok (.aload_n 2, 1) := by decide +kernel
theorem dX4_beginShowing_18 : decode cX4_beginShowing 18 = .ok (.iload 4, 2) := by decide +kernel
theorem dX4_beginShowing_20 : decode cX4_beginShowing 20 = .ok (.aaload, 1) := by decide +kernel
theorem dX4_beginShowing_21 : decode cX4_beginShowing 21 = .ok (.astore 5, 2) := by decide +kernel
theorem dX4_beginShowing_23 : decode cX4_beginShowing 23 = .ok (.aload 5, 2) := by decide +kernel
theorem dX4_beginShowing_25 : decode cX4_beginShowing 25 = .ok (.ifnull 20, 3) := by decide +kernel
theorem dX4_beginShowing_28 : decode cX4_beginShowing 28 = .ok (.aload_n 1, 1) := by decide +kernel
theorem dX4_beginShowing_29 : decode cX4_beginShowing 29 = .ok (.getfield 192, 3) := by decide +kernel
theorem dX4_beginShowing_32 : decode cX4_beginShowing 32 = .ok (.aload 5, 2) := by decide +kernel
theorem dX4_beginShowing_34 : decode cX4_beginShowing 34 = .ok (.getfield 49, 3) := by decide +kernel
theorem dX4_beginShowing_37 : decode cX4_beginShowing 37 = .ok (.aload_n 0, 1) := by decide +kernel
theorem dX4_beginShowing_38 : decode cX4_beginShowing 38 = .ok (.aload_n 1, 1) := by decide +kernel
theorem dX4_beginShowing_39 : decode cX4_beginShowing 39 = .ok (.aload 5, 2) := by decide +kernel
theorem dX4_beginShowing_41 : decode cX4_beginShowing 41 = .ok (.invokevirtual 114, 3) := by decide +kernel
theorem dX4_beginShowing_44 : decode cX4_beginShowing 44 = .ok (.iastore, 1) := by decide +kernel
theorem dX4_beginShowing_45 : decode cX4_beginShowing 45 = .ok (.iinc 4 1, 3) := by decide +kernel
theorem dX4_beginShowing_48 : decode cX4_beginShowing 48 = .ok (.goto (-37), 3) := by decide +kernel
theorem dX4_beginShowing_51 : decode cX4_beginShowing 51 = .ok (.return_, 1) := by decide +kernel
theorem dX4_askAll_0 : decode cX4_askAll 0 = .ok (.aload_n 0, 1) := by decide +kernel
theorem dX4_askAll_1 : decode cX4_askAll 1 = .ok (.invokevirtual 161, 3) := by decide +kernel
theorem dX4_askAll_4 : decode cX4_askAll 4 = .ok (.istore_n 1, 1) := by decide +kernel
theorem dX4_askAll_5 : decode cX4_askAll 5 = .ok (.aload_n 0, 1) := by decide +kernel
theorem dX4_askAll_6 : decode cX4_askAll 6 = .ok (.getfield 11, 3) := by decide +kernel
theorem dX4_askAll_9 : decode cX4_askAll 9 = .ok (.astore_n 2, 1) := by decide +kernel
theorem dX4_askAll_10 : decode cX4_askAll 10 = .ok (.aload_n 2, 1) := by decide +kernel
theorem dX4_askAll_11 : decode cX4_askAll 11 = .ok (.arraylength, 1) := by decide +kernel
theorem dX4_askAll_12 : decode cX4_askAll 12 = .ok (.istore_n 3, 1) := by decide +kernel
theorem dX4_askAll_13 : decode cX4_askAll 13 = .ok (.iconst 0, 1) := by decide +kernel
theorem dX4_askAll_14 : decode cX4_askAll 14 = .ok (.istore 4, 2) := by decide +kernel
theorem dX4_askAll_16 : decode cX4_askAll 16 = .ok (.iload 4, 2) := by decide +kernel
theorem dX4_askAll_18 : decode cX4_askAll 18 = .ok (.iload_n 3, 1) := by decide +kernel
theorem dX4_askAll_19 : decode cX4_askAll 19 = .ok (.if_icmp .ge 27, 3) := by decide +kernel
theorem dX4_askAll_22 : decode cX4_askAll 22 = .ok (.aload_n 2, 1) := by decide +kernel
theorem dX4_askAll_23 : decode cX4_askAll 23 = .ok (.iload 4, 2) := by decide +kernel
theorem dX4_askAll_25 : decode cX4_askAll 25 = .ok (.aaload, 1) := by decide +kernel
theorem dX4_askAll_26 : decode cX4_askAll 26 = .ok (.astore 5, 2) := by decide +kernel
theorem dX4_askAll_28 : decode cX4_askAll 28 = .ok (.aload 5, 2) := by decide +kernel
theorem dX4_askAll_30 : decode cX4_askAll 30 = .ok (.ifnull 10, 3) := by decide +kernel
theorem dX4_askAll_33 : decode cX4_askAll 33 = .ok (.aload_n 0, 1) := by decide +kernel
theorem dX4_askAll_34 : decode cX4_askAll 34 = .ok (.aload 5, 2) := by decide +kernel
theorem dX4_askAll_36 : decode cX4_askAll 36 = .ok (.iload_n 1, 1) := by decide +kernel
theorem dX4_askAll_37 : decode cX4_askAll 37 = .ok (.invokevirtual 195, 3) := by decide +kernel
theorem dX4_askAll_40 : decode cX4_askAll 40 = .ok (.iinc 4 1, 3) := by decide +kernel
theorem dX4_askAll_43 : decode cX4_askAll 43 = .ok (.goto (-27), 3) := by decide +kernel
theorem dX4_askAll_46 : decode cX4_askAll 46 = .ok (.return_, 1) := by decide +kernel
theorem dX4_askOthers_0 : decode cX4_askOthers 0 = .ok (.iload_n 2, 1) := by decide +kernel
theorem dX4_askOthers_1 : decode cX4_askOthers 1 = .ok (.aload_n 1, 1) := by decide +kernel
theorem dX4_askOthers_2 : decode cX4_askOthers 2 = .ok (.getfield 52, 3) := by decide +kernel
theorem dX4_askOthers_5 : decode cX4_askOthers 5 = .ok (.getfield 56, 3) := by decide +kernel
theorem dX4_askOthers_8 : decode cX4_askOthers 8 = .ok (.iconst (-1), 1) := by decide +kernel
theorem dX4_askOthers_9 : decode cX4_askOthers 9 = .ok (.ixor, 1) := by decide +kernel
theorem dX4_askOthers_10 : decode cX4_askOthers 10 = .ok (.iand, 1) := by decide +kernel
theorem dX4_askOthers_11 : decode cX4_askOthers 11 = .ok (.invokestatic 199, 3) := by decide +kernel
theorem dX4_askOthers_14 : decode cX4_askOthers 14 = .ok (.aload_n 1, 1) := by decide +kernel
theorem dX4_askOthers_15 : decode cX4_askOthers 15 = .ok (.getfield 52, 3) := by decide +kernel
theorem dX4_askOthers_18 : decode cX4_askOthers 18 = .ok (.getfield 107, 3) := by decide +kernel
theorem dX4_askOthers_21 : decode cX4_askOthers 21 = .ok (.ldc2_w 203, 3) := by decide +kernel
theorem dX4_askOthers_24 : decode cX4_askOthers 24 = .ok (.lxor, 1) := by decide +kernel
theorem dX4_askOthers_25 : decode cX4_askOthers 25 = .ok (.land, 1) := by decide +kernel
theorem dX4_askOthers_26 : decode cX4_askOthers 26 = .ok (.lstore_n 3, 1) := by decide +kernel
theorem dX4_askOthers_27 : decode cX4_askOthers 27 = .ok (.aload_n 0, 1) := by decide +kernel
theorem dX4_askOthers_28 : decode cX4_askOthers 28 = .ok (.getfield 11, 3) := by decide +kernel
theorem dX4_askOthers_31 : decode cX4_askOthers 31 = .ok (.astore 5, 2) := by decide +kernel
theorem dX4_askOthers_33 : decode cX4_askOthers 33 = .ok (.aload 5, 2) := by decide +kernel
theorem dX4_askOthers_35 : decode cX4_askOthers 35 = .ok (.arraylength, 1) := by decide +kernel
theorem dX4_askOthers_36 : decode cX4_askOthers 36 = .ok (.istore 6, 2) := by decide +kernel
theorem dX4_askOthers_38 : decode cX4_askOthers 38 = .ok (.iconst 0, 1) := by decide +kernel
theorem dX4_askOthers_39 : decode cX4_askOthers 39 = .ok (.istore 7, 2) := by decide +kernel
theorem dX4_askOthers_41 : decode cX4_askOthers 41 = .ok (.iload 7, 2) := by decide +kernel
theorem dX4_askOthers_43 : decode cX4_askOthers 43 = .ok (.iload 6, 2) := by decide +kernel
theorem dX4_askOthers_45 : decode cX4_askOthers 45 = .ok (.if_icmp .ge 45, 3) := by decide +kernel
theorem dX4_askOthers_48 : decode cX4_askOthers 48 = .ok (.aload 5, 2) := by decide +kernel
theorem dX4_askOthers_50 : decode cX4_askOthers 50 = .ok (.iload 7, 2) := by decide +kernel
theorem dX4_askOthers_52 : decode cX4_askOthers 52 = .ok (.aaload, 1) := by decide +kernel
theorem dX4_askOthers_53 : decode cX4_askOthers 53 = .ok (.astore 8, 2) := by decide +kernel
theorem dX4_askOthers_55 : decode cX4_askOthers 55 = .ok (.aload 8, 2) := by decide +kernel
theorem dX4_askOthers_57 : decode cX4_askOthers 57 = .ok (.ifnull 27, 3) := by decide +kernel
theorem dX4_askOthers_60 : decode cX4_askOthers 60 = .ok (.aload 8, 2) := by decide +kernel
theorem dX4_askOthers_62 : decode cX4_askOthers 62 = .ok (.getfield 186, 3) := by decide +kernel
theorem dX4_askOthers_65 : decode cX4_askOthers 65 = .ok (.i2l, 1) := by decide +kernel
theorem dX4_askOthers_66 : decode cX4_askOthers 66 = .ok (.aload_n 1, 1) := by decide +kernel
theorem dX4_askOthers_67 : decode cX4_askOthers 67 = .ok (.getfield 49, 3) := by decide +kernel
theorem dX4_askOthers_70 : decode cX4_askOthers 70 = .ok (.invokestatic 86, 3) := by decide +kernel
theorem dX4_askOthers_73 : decode cX4_askOthers 73 = .ok (.ifCond .eq 11, 3) := by decide +kernel
theorem dX4_askOthers_76 : decode cX4_askOthers 76 = .ok (.aload_n 0, 1) := by decide +kernel
theorem dX4_askOthers_77 : decode cX4_askOthers 77 = .ok (.aload_n 1, 1) := by decide +kernel
theorem dX4_askOthers_78 : decode cX4_askOthers 78 = .ok (.aload 8, 2) := by decide +kernel
theorem dX4_askOthers_80 : decode cX4_askOthers 80 = .ok (.lload_n 3, 1) := by decide +kernel
theorem dX4_askOthers_81 : decode cX4_askOthers 81 = .ok (.invokevirtual 205, 3) := by decide +kernel
theorem dX4_askOthers_84 : decode cX4_askOthers 84 = .ok (.iinc 7 1, 3) := by decide +kernel
theorem dX4_askOthers_87 : decode cX4_askOthers 87 = .ok (.goto (-46), 3) := by decide +kernel
theorem dX4_askOthers_90 : decode cX4_askOthers 90 = .ok (.return_, 1) := by decide +kernel
theorem dX4_askOne_0 : decode cX4_askOne 0 = .ok (.lload_n 3, 1) := by decide +kernel
theorem dX4_askOne_1 : decode cX4_askOne 1 = .ok (.aload_n 2, 1) := by decide +kernel
theorem dX4_askOne_2 : decode cX4_askOne 2 = .ok (.getfield 192, 3) := by decide +kernel
theorem dX4_askOne_5 : decode cX4_askOne 5 = .ok (.aload_n 1, 1) := by decide +kernel
theorem dX4_askOne_6 : decode cX4_askOne 6 = .ok (.getfield 49, 3) := by decide +kernel
theorem dX4_askOne_9 : decode cX4_askOne 9 = .ok (.iaload, 1) := by decide +kernel
theorem dX4_askOne_10 : decode cX4_askOne 10 = .ok (.invokestatic 199, 3) := by decide +kernel
theorem dX4_askOne_13 : decode cX4_askOne 13 = .ok (.land, 1) := by decide +kernel
theorem dX4_askOne_14 : decode cX4_askOne 14 = .ok (.lstore 5, 2) := by decide +kernel
theorem dX4_askOne_16 : decode cX4_askOne 16 = .ok (.lload 5, 2) := by decide +kernel
theorem dX4_askOne_18 : decode cX4_askOne 18 = .ok (.aload_n 1, 1) := by decide +kernel
theorem dX4_askOne_19 : decode cX4_askOne 19 = .ok (.getfield 177, 3) := by decide +kernel
theorem dX4_askOne_22 : decode cX4_askOne 22 = .ok (.getfield 209, 3) := by decide +kernel
theorem dX4_askOne_25 : decode cX4_askOne 25 = .ok (.ldc2_w 203, 3) := by decide +kernel
theorem dX4_askOne_28 : decode cX4_askOne 28 = .ok (.lxor, 1) := by decide +kernel
theorem dX4_askOne_29 : decode cX4_askOne 29 = .ok (.land, 1) := by decide +kernel
theorem dX4_askOne_30 : decode cX4_askOne 30 = .ok (.lstore 7, 2) := by decide +kernel
theorem dX4_askOne_32 : decode cX4_askOne 32 = .ok (.lload 7, 2) := by decide +kernel
theorem dX4_askOne_34 : decode cX4_askOne 34 = .ok (.lconst 0, 1) := by decide +kernel
theorem dX4_askOne_35 : decode cX4_askOne 35 = .ok (.lcmp, 1) := by decide +kernel
theorem dX4_askOne_36 : decode cX4_askOne 36 = .ok (.ifCond .eq 37, 3) := by decide +kernel
theorem dX4_askOne_39 : decode cX4_askOne 39 = .ok (.aload_n 0, 1) := by decide +kernel
theorem dX4_askOne_40 : decode cX4_askOne 40 = .ok (.aload_n 1, 1) := by decide +kernel
theorem dX4_askOne_41 : decode cX4_askOne 41 = .ok (.lload 7, 2) := by decide +kernel
theorem dX4_askOne_43 : decode cX4_askOne 43 = .ok (.invokevirtual 212, 3) := by decide +kernel
theorem dX4_askOne_46 : decode cX4_askOne 46 = .ok (.istore 9, 2) := by decide +kernel
theorem dX4_askOne_48 : decode cX4_askOne 48 = .ok (.aload_n 1, 1) := by decide +kernel
theorem dX4_askOne_49 : decode cX4_askOne 49 = .ok (.getfield 177, 3) := by decide +kernel
theorem dX4_askOne_52 : decode cX4_askOne 52 = .ok (.lload 7, 2) := by decide +kernel
theorem dX4_askOne_54 : decode cX4_askOne 54 = .ok (.iload 9, 2) := by decide +kernel
theorem dX4_askOne_56 : decode cX4_askOne 56 = .ok (.invokestatic 216, 3) := by decide +kernel
theorem dX4_askOne_59 : decode cX4_askOne 59 = .ok (.land, 1) := by decide +kernel
theorem dX4_askOne_60 : decode cX4_askOne 60 = .ok (.invokestatic 219, 3) := by decide +kernel
theorem dX4_askOne_63 : decode cX4_askOne 63 = .ok (.aload_n 2, 1) := by decide +kernel
theorem dX4_askOne_64 : decode cX4_askOne 64 = .ok (.getfield 49, 3) := by decide +kernel
theorem dX4_askOne_67 : decode cX4_askOne 67 = .ok (.invokevirtual 223, 3) := by decide +kernel
theorem dX4_askOne_70 : decode cX4_askOne 70 = .ok (.goto 44, 3) := by decide +kernel
theorem dX4_askOne_73 : decode cX4_askOne 73 = .ok (.lload_n 3, 1) := by decide +kernel
theorem dX4_askOne_74 : decode cX4_askOne 74 = .ok (.aload_n 1, 1) := by decide +kernel
theorem dX4_askOne_75 : decode cX4_askOne 75 = .ok (.getfield 177, 3) := by decide +kernel
theorem dX4_askOne_78 : decode cX4_askOne 78 = .ok (.getfield 209, 3) := by decide +kernel
theorem dX4_askOne_81 : decode cX4_askOne 81 = .ok (.ldc2_w 203, 3) := by decide +kernel
theorem dX4_askOne_84 : decode cX4_askOne 84 = .ok (.lxor, 1) := by decide +kernel
theorem dX4_askOne_85 : decode cX4_askOne 85 = .ok (.land, 1) := by decide +kernel
theorem dX4_askOne_86 : decode cX4_askOne 86 = .ok (.lconst 0, 1) := by decide +kernel
theorem dX4_askOne_87 : decode cX4_askOne 87 = .ok (.lcmp, 1) := by decide +kernel
theorem dX4_askOne_88 : decode cX4_askOne 88 = .ok (.ifCond .ne 26, 3) := by decide +kernel
theorem dX4_askOne_91 : decode cX4_askOne 91 = .ok (.lload 5, 2) := by decide +kernel
theorem dX4_askOne_93 : decode cX4_askOne 93 = .ok (.lconst 0, 1) := by decide +kernel
theorem dX4_askOne_94 : decode cX4_askOne 94 = .ok (.lcmp, 1) := by decide +kernel
theorem dX4_askOne_95 : decode cX4_askOne 95 = .ok (.ifCond .eq 19, 3) := by decide +kernel
theorem dX4_askOne_98 : decode cX4_askOne 98 = .ok (.aload_n 1, 1) := by decide +kernel
theorem dX4_askOne_99 : decode cX4_askOne 99 = .ok (.getfield 177, 3) := by decide +kernel
theorem dX4_askOne_102 : decode cX4_askOne 102 = .ok (.lload 5, 2) := by decide +kernel
theorem dX4_askOne_104 : decode cX4_askOne 104 = .ok (.invokestatic 219, 3) := by decide +kernel
theorem dX4_askOne_107 : decode cX4_askOne 107 = .ok (.aload_n 2, 1) := by decide +kernel
theorem dX4_askOne_108 : decode cX4_askOne 108 = .ok (.getfield 49, 3) := by decide +kernel
theorem dX4_askOne_111 : decode cX4_askOne 111 = .ok (.invokevirtual 223, 3) := by decide +kernel
theorem dX4_askOne_114 : decode cX4_askOne 114 = .ok (.return_, 1) := by decide +kernel
theorem dX4_findBestPiece_0 : decode cX4_findBestPiece 0 = .ok (.iconst (-1), 1) := by decide +kernel
theorem dX4_findBestPiece_1 : decode cX4_findBestPiece 1 = .ok (.istore 4, 2) := by decide +kernel
theorem dX4_findBestPiece_3 : decode cX4_findBestPiece 3 = .ok (.iconst 0, 1) := by decide +kernel
theorem dX4_findBestPiece_4 : decode cX4_findBestPiece 4 = .ok (.istore 5, 2) := by decide +kernel
theorem dX4_findBestPiece_6 : decode cX4_findBestPiece 6 = .ok (.iload 5, 2) := by decide +kernel
theorem dX4_findBestPiece_8 : decode cX4_findBestPiece 8 = .ok (.bipush 12, 2) := by decide +kernel
theorem dX4_findBestPiece_10 : decode cX4_findBestPiece 10 = .ok (.if_icmp .ge 43, 3) := by decide +kernel
theorem dX4_findBestPiece_13 : decode cX4_findBestPiece 13 = .ok (.lload_n 2, 1) := by decide +kernel
theorem dX4_findBestPiece_14 : decode cX4_findBestPiece 14 = .ok (.iload 5, 2) := by decide +kernel
theorem dX4_findBestPiece_16 : decode cX4_findBestPiece 16 = .ok (.invokestatic 216, 3) := by decide +kernel
theorem dX4_findBestPiece_19 : decode cX4_findBestPiece 19 = .ok (.land, 1) := by decide +kernel
theorem dX4_findBestPiece_20 : decode cX4_findBestPiece 20 = .ok (.lconst 0, 1) := by decide +kernel
theorem dX4_findBestPiece_21 : decode cX4_findBestPiece 21 = .ok (.lcmp, 1) := by decide +kernel
theorem dX4_findBestPiece_22 : decode cX4_findBestPiece 22 = .ok (.ifCond .eq 25, 3) := by decide +kernel
theorem dX4_findBestPiece_25 : decode cX4_findBestPiece 25 = .ok (.iload 4, 2) := by decide +kernel
theorem dX4_findBestPiece_27 : decode cX4_findBestPiece 27 = .ok (.iconst (-1), 1) := by decide +kernel
theorem dX4_findBestPiece_28 : decode cX4_findBestPiece 28 = .ok (.if_icmp .eq 15, 3) := by decide +kernel
theorem dX4_findBestPiece_31 : decode cX4_findBestPiece 31 = .ok (.aload_n 0, 1) := by decide +kernel
theorem dX4_findBestPiece_32 : decode cX4_findBestPiece 32 = .ok (.aload_n 1, 1) := by decide +kernel
theorem dX4_findBestPiece_33 : decode cX4_findBestPiece 33 = .ok (.iload 5, 2) := by decide +kernel
theorem dX4_findBestPiece_35 : decode cX4_findBestPiece 35 = .ok (.iload 4, 2) := by decide +kernel
theorem dX4_findBestPiece_37 : decode cX4_findBestPiece 37 = .ok (.invokevirtual 226, 3) := by decide +kernel
theorem dX4_findBestPiece_40 : decode cX4_findBestPiece 40 = .ok (.ifCond .eq 7, 3) := by decide +kernel
theorem dX4_findBestPiece_43 : decode cX4_findBestPiece 43 = .ok (.iload 5, 2) := by decide +kernel
theorem dX4_findBestPiece_45 : decode cX4_findBestPiece 45 = .ok (.istore 4, 2) := by decide +kernel
theorem dX4_findBestPiece_47 : decode cX4_findBestPiece 47 = .ok (.iinc 5 1, 3) := by decide +kernel
theorem dX4_findBestPiece_50 : decode cX4_findBestPiece 50 = .ok (.goto (-44), 3) := by decide +kernel
theorem dX4_findBestPiece_53 : decode cX4_findBestPiece 53 = .ok (.iload 4, 2) := by decide +kernel
theorem dX4_findBestPiece_55 : decode cX4_findBestPiece 55 = .ok (.ireturn, 1) := by decide +kernel
theorem dX4_isBetter_0 : decode cX4_isBetter 0 = .ok (.aload_n 1, 1) := by decide +kernel
theorem dX4_isBetter_1 : decode cX4_isBetter 1 = .ok (.iload_n 2, 1) := by decide +kernel
theorem dX4_isBetter_2 : decode cX4_isBetter 2 = .ok (.invokestatic 230, 3) := by decide +kernel
theorem dX4_isBetter_5 : decode cX4_isBetter 5 = .ok (.istore 4, 2) := by decide +kernel
theorem dX4_isBetter_7 : decode cX4_isBetter 7 = .ok (.iload 4, 2) := by decide +kernel
theorem dX4_isBetter_9 : decode cX4_isBetter 9 = .ok (.aload_n 1, 1) := by decide +kernel
theorem dX4_isBetter_10 : decode cX4_isBetter 10 = .ok (.iload_n 3, 1) := by decide +kernel
theorem dX4_isBetter_11 : decode cX4_isBetter 11 = .ok (.invokestatic 230, 3) := by decide +kernel
theorem dX4_isBetter_14 : decode cX4_isBetter 14 = .ok (.if_icmp .eq 6, 3) := by decide +kernel
theorem dX4_isBetter_17 : decode cX4_isBetter 17 = .ok (.iload 4, 2) := by decide +kernel
theorem dX4_isBetter_19 : decode cX4_isBetter 19 = .ok (.ireturn, 1) := by decide +kernel
theorem dX4_isBetter_20 : decode cX4_isBetter 20 = .ok (.aload_n 0, 1) := by decide +kernel
theorem dX4_isBetter_21 : decode cX4_isBetter 21 = .ok (.getfield 15, 3) := by decide +kernel
theorem dX4_isBetter_24 : decode cX4_isBetter 24 = .ok (.iload_n 2, 1) := by decide +kernel
theorem dX4_isBetter_25 : decode cX4_isBetter 25 = .ok (.iaload, 1) := by decide +kernel
theorem dX4_isBetter_26 : decode cX4_isBetter 26 = .ok (.aload_n 0, 1) := by decide +kernel
theorem dX4_isBetter_27 : decode cX4_isBetter 27 = .ok (.getfield 15, 3) := by decide +kernel
theorem dX4_isBetter_30 : decode cX4_isBetter 30 = .ok (.iload_n 3, 1) := by decide +kernel
theorem dX4_isBetter_31 : decode cX4_isBetter 31 = .ok (.iaload, 1) := by decide +kernel
theorem dX4_isBetter_32 : decode cX4_isBetter 32 = .ok (.if_icmp .eq 24, 3) := by decide +kernel
theorem dX4_isBetter_35 : decode cX4_isBetter 35 = .ok (.aload_n 0, 1) := by decide +kernel
theorem dX4_isBetter_36 : decode cX4_isBetter 36 = .ok (.getfield 15, 3) := by decide +kernel
theorem dX4_isBetter_39 : decode cX4_isBetter 39 = .ok (.iload_n 2, 1) := by decide +kernel
theorem dX4_isBetter_40 : decode cX4_isBetter 40 = .ok (.iaload, 1) := by decide +kernel
theorem dX4_isBetter_41 : decode cX4_isBetter 41 = .ok (.aload_n 0, 1) := by decide +kernel
theorem dX4_isBetter_42 : decode cX4_isBetter 42 = .ok (.getfield 15, 3) := by decide +kernel
theorem dX4_isBetter_45 : decode cX4_isBetter 45 = .ok (.iload_n 3, 1) := by decide +kernel
theorem dX4_isBetter_46 : decode cX4_isBetter 46 = .ok (.iaload, 1) := by decide +kernel
theorem dX4_isBetter_47 : decode cX4_isBetter 47 = .ok (.if_icmp .le 7, 3) := by decide +kernel
theorem dX4_isBetter_50 : decode cX4_isBetter 50 = .ok (.iconst 1, 1) := by decide +kernel
theorem dX4_isBetter_51 : decode cX4_isBetter 51 = .ok (.goto 4, 3) := by decide +kernel
theorem dX4_isBetter_54 : decode cX4_isBetter 54 = .ok (.iconst 0, 1) := by decide +kernel
theorem dX4_isBetter_55 : decode cX4_isBetter 55 = .ok (.ireturn, 1) := by decide +kernel
theorem dX4_isBetter_56 : decode cX4_isBetter 56 = .ok (.aload_n 1, 1) := by decide +kernel
theorem dX4_isBetter_57 : decode cX4_isBetter 57 = .ok (.getfield 76, 3) := by decide +kernel
theorem dX4_isBetter_60 : decode cX4_isBetter 60 = .ok (.ifCond .ne 39, 3) := by decide +kernel
theorem dX4_isBetter_63 : decode cX4_isBetter 63 = .ok (.aload_n 0, 1) := by decide +kernel
theorem dX4_isBetter_64 : decode cX4_isBetter 64 = .ok (.getfield 19, 3) := by decide +kernel
theorem dX4_isBetter_67 : decode cX4_isBetter 67 = .ok (.iload_n 2, 1) := by decide +kernel
theorem dX4_isBetter_68 : decode cX4_isBetter 68 = .ok (.iaload, 1) := by decide +kernel
theorem dX4_isBetter_69 : decode cX4_isBetter 69 = .ok (.aload_n 0, 1) := by decide +kernel
theorem dX4_isBetter_70 : decode cX4_isBetter 70 = .ok (.getfield 19, 3) := by decide +kernel
theorem dX4_isBetter_73 : decode cX4_isBetter 73 = .ok (.iload_n 3, 1) := by decide +kernel
theorem dX4_isBetter_74 : decode cX4_isBetter 74 = .ok (.iaload, 1) := by decide +kernel
theorem dX4_isBetter_75 : decode cX4_isBetter 75 = .ok (.if_icmp .eq 24, 3) := by decide +kernel
theorem dX4_isBetter_78 : decode cX4_isBetter 78 = .ok (.aload_n 0, 1) := by decide +kernel
theorem dX4_isBetter_79 : decode cX4_isBetter 79 = .ok (.getfield 19, 3) := by decide +kernel
theorem dX4_isBetter_82 : decode cX4_isBetter 82 = .ok (.iload_n 2, 1) := by decide +kernel
theorem dX4_isBetter_83 : decode cX4_isBetter 83 = .ok (.iaload, 1) := by decide +kernel
theorem dX4_isBetter_84 : decode cX4_isBetter 84 = .ok (.aload_n 0, 1) := by decide +kernel
theorem dX4_isBetter_85 : decode cX4_isBetter 85 = .ok (.getfield 19, 3) := by decide +kernel
theorem dX4_isBetter_88 : decode cX4_isBetter 88 = .ok (.iload_n 3, 1) := by decide +kernel
theorem dX4_isBetter_89 : decode cX4_isBetter 89 = .ok (.iaload, 1) := by decide +kernel
theorem dX4_isBetter_90 : decode cX4_isBetter 90 = .ok (.if_icmp .ge 7, 3) := by decide +kernel
theorem dX4_isBetter_93 : decode cX4_isBetter 93 = .ok (.iconst 1, 1) := by decide +kernel
theorem dX4_isBetter_94 : decode cX4_isBetter 94 = .ok (.goto 4, 3) := by decide +kernel
theorem dX4_isBetter_97 : decode cX4_isBetter 97 = .ok (.iconst 0, 1) := by decide +kernel
theorem dX4_isBetter_98 : decode cX4_isBetter 98 = .ok (.ireturn, 1) := by decide +kernel
theorem dX4_isBetter_99 : decode cX4_isBetter 99 = .ok (.iload_n 2, 1) := by decide +kernel
theorem dX4_isBetter_100 : decode cX4_isBetter 100 = .ok (.iload_n 3, 1) := by decide +kernel
theorem dX4_isBetter_101 : decode cX4_isBetter 101 = .ok (.if_icmp .ge 7, 3) := by decide +kernel
theorem dX4_isBetter_104 : decode cX4_isBetter 104 = .ok (.iconst 1, 1) := by decide +kernel
theorem dX4_isBetter_105 : decode cX4_isBetter 105 = .ok (.goto 4, 3) := by decide +kernel
theorem dX4_isBetter_108 : decode cX4_isBetter 108 = .ok (.iconst 0, 1) := by decide +kernel
theorem dX4_isBetter_109 : decode cX4_isBetter 109 = .ok (.ireturn, 1) := by decide +kernel
theorem dX4_isBegun_0 : decode cX4_isBegun 0 = .ok (.aload_n 0, 1) := by decide +kernel
theorem dX4_isBegun_1 : decode cX4_isBegun 1 = .ok (.getfield 52, 3) := by decide +kernel
theorem dX4_isBegun_4 : decode cX4_isBegun 4 = .ok (.getfield 107, 3) := by decide +kernel
theorem dX4_isBegun_7 : decode cX4_isBegun 7 = .ok (.aload_n 0, 1) := by decide +kernel
theorem dX4_isBegun_8 : decode cX4_isBegun 8 = .ok (.getfield 177, 3) := by decide +kernel
theorem dX4_isBegun_11 : decode cX4_isBegun 11 = .ok (.getfield 209, 3) := by decide +kernel
theorem dX4_isBegun_14 : decode cX4_isBegun 14 = .ok (.lor, 1) := by decide +kernel
theorem dX4_isBegun_15 : decode cX4_isBegun 15 = .ok (.iload_n 1, 1) := by decide +kernel
theorem dX4_isBegun_16 : decode cX4_isBegun 16 = .ok (.invokestatic 216, 3) := by decide +kernel
theorem dX4_isBegun_19 : decode cX4_isBegun 19 = .ok (.land, 1) := by decide +kernel
theorem dX4_isBegun_20 : decode cX4_isBegun 20 = .ok (.lconst 0, 1) := by decide +kernel
theorem dX4_isBegun_21 : decode cX4_isBegun 21 = .ok (.lcmp, 1) := by decide +kernel
theorem dX4_isBegun_22 : decode cX4_isBegun 22 = .ok (.ifCond .eq 7, 3) := by decide +kernel
theorem dX4_isBegun_25 : decode cX4_isBegun 25 = .ok (.iconst 1, 1) := by decide +kernel
theorem dX4_isBegun_26 : decode cX4_isBegun 26 = .ok (.goto 4, 3) := by decide +kernel
theorem dX4_isBegun_29 : decode cX4_isBegun 29 = .ok (.iconst 0, 1) := by decide +kernel
theorem dX4_isBegun_30 : decode cX4_isBegun 30 = .ok (.ireturn, 1) := by decide +kernel
theorem dX4_comeAll_0 : decode cX4_comeAll 0 = .ok (.iconst 0, 1) := by decide +kernel
theorem dX4_comeAll_1 : decode cX4_comeAll 1 = .ok (.istore_n 1, 1) := by decide +kernel
theorem dX4_comeAll_2 : decode cX4_comeAll 2 = .ok (.aload_n 0, 1) := by decide +kernel
theorem dX4_comeAll_3 : decode cX4_comeAll 3 = .ok (.getfield 11, 3) := by decide +kernel
theorem dX4_comeAll_6 : decode cX4_comeAll 6 = .ok (.astore_n 2, 1) := by decide +kernel
theorem dX4_comeAll_7 : decode cX4_comeAll 7 = .ok (.aload_n 2, 1) := by decide +kernel
theorem dX4_comeAll_8 : decode cX4_comeAll 8 = .ok (.arraylength, 1) := by decide +kernel
theorem dX4_comeAll_9 : decode cX4_comeAll 9 = .ok (.istore_n 3, 1) := by decide +kernel
theorem dX4_comeAll_10 : decode cX4_comeAll 10 = .ok (.iconst 0, 1) := by decide +kernel
theorem dX4_comeAll_11 : decode cX4_comeAll 11 = .ok (.istore 4, 2) := by decide +kernel
theorem dX4_comeAll_13 : decode cX4_comeAll 13 = .ok (.iload 4, 2) := by decide +kernel
theorem dX4_comeAll_15 : decode cX4_comeAll 15 = .ok (.iload_n 3, 1) := by decide +kernel
theorem dX4_comeAll_16 : decode cX4_comeAll 16 = .ok (.if_icmp .ge 29, 3) := by decide +kernel
theorem dX4_comeAll_19 : decode cX4_comeAll 19 = .ok (.aload_n 2, 1) := by decide +kernel
theorem dX4_comeAll_20 : decode cX4_comeAll 20 = .ok (.iload 4, 2) := by decide +kernel
theorem dX4_comeAll_22 : decode cX4_comeAll 22 = .ok (.aaload, 1) := by decide +kernel
theorem dX4_comeAll_23 : decode cX4_comeAll 23 = .ok (.astore 5, 2) := by decide +kernel
theorem dX4_comeAll_25 : decode cX4_comeAll 25 = .ok (.aload 5, 2) := by decide +kernel
theorem dX4_comeAll_27 : decode cX4_comeAll 27 = .ok (.ifnull 12, 3) := by decide +kernel
theorem dX4_comeAll_30 : decode cX4_comeAll 30 = .ok (.iload_n 1, 1) := by decide +kernel
theorem dX4_comeAll_31 : decode cX4_comeAll 31 = .ok (.aload_n 0, 1) := by decide +kernel
theorem dX4_comeAll_32 : decode cX4_comeAll 32 = .ok (.aload 5, 2) := by decide +kernel
theorem dX4_comeAll_34 : decode cX4_comeAll 34 = .ok (.invokevirtual 234, 3) := by decide +kernel
theorem dX4_comeAll_37 : decode cX4_comeAll 37 = .ok (.iadd, 1) := by decide +kernel
theorem dX4_comeAll_38 : decode cX4_comeAll 38 = .ok (.istore_n 1, 1) := by decide +kernel
theorem dX4_comeAll_39 : decode cX4_comeAll 39 = .ok (.iinc 4 1, 3) := by decide +kernel
theorem dX4_comeAll_42 : decode cX4_comeAll 42 = .ok (.goto (-29), 3) := by decide +kernel
theorem dX4_comeAll_45 : decode cX4_comeAll 45 = .ok (.iload_n 1, 1) := by decide +kernel
theorem dX4_comeAll_46 : decode cX4_comeAll 46 = .ok (.ireturn, 1) := by decide +kernel
theorem dX4_comeTo_0 : decode cX4_comeTo 0 = .ok (.aload_n 1, 1) := by decide +kernel
theorem dX4_comeTo_1 : decode cX4_comeTo 1 = .ok (.getfield 122, 3) := by decide +kernel
theorem dX4_comeTo_4 : decode cX4_comeTo 4 = .ok (.iconst 0, 1) := by decide +kernel
theorem dX4_comeTo_5 : decode cX4_comeTo 5 = .ok (.invokestatic 29, 3) := by decide +kernel
theorem dX4_comeTo_8 : decode cX4_comeTo 8 = .ok (.iconst 0, 1) := by decide +kernel
theorem dX4_comeTo_9 : decode cX4_comeTo 9 = .ok (.istore_n 2, 1) := by decide +kernel
theorem dX4_comeTo_10 : decode cX4_comeTo 10 = .ok (.iconst 0, 1) := by decide +kernel
theorem dX4_comeTo_11 : decode cX4_comeTo 11 = .ok (.istore_n 3, 1) := by decide +kernel
theorem dX4_comeTo_12 : decode cX4_comeTo 12 = .ok (.iload_n 3, 1) := by decide +kernel
theorem dX4_comeTo_13 : decode cX4_comeTo 13 = .ok (.aload_n 1, 1) := by decide +kernel
theorem dX4_comeTo_14 : decode cX4_comeTo 14 = .ok (.getfield 177, 3) := by decide +kernel
theorem dX4_comeTo_17 : decode cX4_comeTo 17 = .ok (.getfield 237, 3) := by decide +kernel
theorem dX4_comeTo_20 : decode cX4_comeTo 20 = .ok (.if_icmp .ge 137, 3) := by decide +kernel
theorem dX4_comeTo_23 : decode cX4_comeTo 23 = .ok (.aload_n 1, 1) := by decide +kernel
theorem dX4_comeTo_24 : decode cX4_comeTo 24 = .ok (.getfield 177, 3) := by decide +kernel
theorem dX4_comeTo_27 : decode cX4_comeTo 27 = .ok (.getfield 240, 3) := by decide +kernel
theorem dX4_comeTo_30 : decode cX4_comeTo 30 = .ok (.iload_n 3, 1) := by decide +kernel
theorem dX4_comeTo_31 : decode cX4_comeTo 31 = .ok (.iaload, 1) := by decide +kernel
theorem dX4_comeTo_32 : decode cX4_comeTo 32 = .ok (.istore 4, 2) := by decide +kernel
theorem dX4_comeTo_34 : decode cX4_comeTo 34 = .ok (.aload_n 1, 1) := by decide +kernel
theorem dX4_comeTo_35 : decode cX4_comeTo 35 = .ok (.getfield 177, 3) := by decide +kernel
theorem dX4_comeTo_38 : decode cX4_comeTo 38 = .ok (.getfield 243, 3) := by decide +kernel
theorem dX4_comeTo_41 : decode cX4_comeTo 41 = .ok (.iload_n 3, 1) := by decide +kernel
theorem dX4_comeTo_42 : decode cX4_comeTo 42 = .ok (.iaload, 1) := by decide +kernel
theorem dX4_comeTo_43 : decode cX4_comeTo 43 = .ok (.istore 5, 2) := by decide +kernel
theorem dX4_comeTo_45 : decode cX4_comeTo 45 = .ok (.aload_n 0, 1) := by decide +kernel
theorem dX4_comeTo_46 : decode cX4_comeTo 46 = .ok (.iload 5, 2) := by decide +kernel
theorem dX4_comeTo_48 : decode cX4_comeTo 48 = .ok (.invokevirtual 134, 3) := by decide +kernel
theorem dX4_comeTo_51 : decode cX4_comeTo 51 = .ok (.astore 6, 2) := by decide +kernel
theorem dX4_comeTo_53 : decode cX4_comeTo 53 = .ok (.aload 6, 2) := by decide +kernel
theorem dX4_comeTo_55 : decode cX4_comeTo 55 = .ok (.ifnull 23, 3) := by decide +kernel
theorem dX4_comeTo_58 : decode cX4_comeTo 58 = .ok (.aload 6, 2) := by decide +kernel
theorem dX4_comeTo_60 : decode cX4_comeTo 60 = .ok (.getfield 83, 3) := by decide +kernel
theorem dX4_comeTo_63 : decode cX4_comeTo 63 = .ok (.i2l, 1) := by decide +kernel
theorem dX4_comeTo_64 : decode cX4_comeTo 64 = .ok (.iload 4, 2) := by decide +kernel
theorem dX4_comeTo_66 : decode cX4_comeTo 66 = .ok (.iconst 4, 1) := by decide +kernel
theorem dX4_comeTo_67 : decode cX4_comeTo 67 = .ok (.idiv, 1) := by decide +kernel
theorem dX4_comeTo_68 : decode cX4_comeTo 68 = .ok (.invokestatic 86, 3) := by decide +kernel
theorem dX4_comeTo_71 : decode cX4_comeTo 71 = .ok (.ifCond .eq 7, 3) := by decide +kernel
theorem dX4_comeTo_74 : decode cX4_comeTo 74 = .ok (.iconst 1, 1) := by decide +kernel
theorem dX4_comeTo_75 : decode cX4_comeTo 75 = .ok (.goto 4, 3) := by decide +kernel
theorem dX4_comeTo_78 : decode cX4_comeTo 78 = .ok (.iconst 0, 1) := by decide +kernel
theorem dX4_comeTo_79 : decode cX4_comeTo 79 = .ok (.istore 7, 2) := by decide +kernel
theorem dX4_comeTo_81 : decode cX4_comeTo 81 = .ok (.aload_n 1, 1) := by decide +kernel
theorem dX4_comeTo_82 : decode cX4_comeTo 82 = .ok (.getfield 98, 3) := by decide +kernel
theorem dX4_comeTo_85 : decode cX4_comeTo 85 = .ok (.aload_n 0, 1) := by decide +kernel
theorem dX4_comeTo_86 : decode cX4_comeTo 86 = .ok (.getfield 26, 3) := by decide +kernel
theorem dX4_comeTo_89 : decode cX4_comeTo 89 = .ok (.iload 4, 2) := by decide +kernel
theorem dX4_comeTo_91 : decode cX4_comeTo 91 = .ok (.iload 7, 2) := by decide +kernel
theorem dX4_comeTo_93 : decode cX4_comeTo 93 = .ok (.invokevirtual 246, 3) := by decide +kernel
theorem dX4_comeTo_96 : decode cX4_comeTo 96 = .ok (.aload_n 1, 1) := by decide +kernel
theorem dX4_comeTo_97 : decode cX4_comeTo 97 = .ok (.getfield 52, 3) := by decide +kernel
theorem dX4_comeTo_100 : decode cX4_comeTo 100 = .ok (.iload 4, 2) := by decide +kernel
theorem dX4_comeTo_102 : decode cX4_comeTo 102 = .ok (.iload 7, 2) := by decide +kernel
theorem dX4_comeTo_104 : decode cX4_comeTo 104 = .ok (.invokevirtual 249, 3) := by decide +kernel
theorem dX4_comeTo_107 : decode cX4_comeTo 107 = .ok (.ifCond .eq 34, 3) := by decide +kernel
theorem dX4_comeTo_110 : decode cX4_comeTo 110 = .ok (.aload_n 1, 1) := by decide +kernel
theorem dX4_comeTo_111 : decode cX4_comeTo 111 = .ok (.getfield 253, 3) := by decide +kernel
theorem dX4_comeTo_114 : decode cX4_comeTo 114 = .ok (.iload 5, 2) := by decide +kernel
theorem dX4_comeTo_116 : decode cX4_comeTo 116 = .ok (.dup2, 1) := by decide +kernel
theorem dX4_comeTo_117 : decode cX4_comeTo 117 = .ok (.laload, 1) := by decide +kernel
theorem dX4_comeTo_118 : decode cX4_comeTo 118 = .ok (.lconst 1, 1) := by decide +kernel
theorem dX4_comeTo_119 : decode cX4_comeTo 119 = .ok (.iload 4, 2) := by decide +kernel
theorem dX4_comeTo_121 : decode cX4_comeTo 121 = .ok (.lshl, 1) := by decide +kernel
theorem dX4_comeTo_122 : decode cX4_comeTo 122 = .ok (.lor, 1) := by decide +kernel
theorem dX4_comeTo_123 : decode cX4_comeTo 123 = .ok (.lastore, 1) := by decide +kernel
theorem dX4_comeTo_124 : decode cX4_comeTo 124 = .ok (.aload_n 1, 1) := by decide +kernel
theorem dX4_comeTo_125 : decode cX4_comeTo 125 = .ok (.getfield 122, 3) := by decide +kernel
theorem dX4_comeTo_128 : decode cX4_comeTo 128 = .ok (.iload 5, 2) := by decide +kernel
theorem dX4_comeTo_130 : decode cX4_comeTo 130 = .ok (.dup2, 1) := by decide +kernel
theorem dX4_comeTo_131 : decode cX4_comeTo 131 = .ok (.iaload, 1) := by decide +kernel
theorem dX4_comeTo_132 : decode cX4_comeTo 132 = .ok (.iconst 1, 1) := by decide +kernel
theorem dX4_comeTo_133 : decode cX4_comeTo 133 = .ok (.iadd, 1) := by decide +kernel
theorem dX4_comeTo_134 : decode cX4_comeTo 134 = .ok (.iastore, 1) := by decide +kernel
theorem dX4_comeTo_135 : decode cX4_comeTo 135 = .ok (.iinc 2 1, 3) := by decide +kernel
theorem dX4_comeTo_138 : decode cX4_comeTo 138 = .ok (.goto 13, 3) := by decide +kernel
theorem dX4_comeTo_141 : decode cX4_comeTo 141 = .ok (.aload_n 1, 1) := by decide +kernel
theorem dX4_comeTo_142 : decode cX4_comeTo 142 = .ok (.dup, 1) := by decide +kernel
theorem dX4_comeTo_143 : decode cX4_comeTo 143 = .ok (.getfield 125, 3) := by decide +kernel
theorem dX4_comeTo_146 : decode cX4_comeTo 146 = .ok (.iconst 1, 1) := by decide +kernel
theorem dX4_comeTo_147 : decode cX4_comeTo 147 = .ok (.iadd, 1) := by decide +kernel
theorem dX4_comeTo_148 : decode cX4_comeTo 148 = .ok (.putfield 125, 3) := by decide +kernel
theorem dX4_comeTo_151 : decode cX4_comeTo 151 = .ok (.iinc 3 1, 3) := by decide +kernel
theorem dX4_comeTo_154 : decode cX4_comeTo 154 = .ok (.goto (-142), 3) := by decide +kernel
theorem dX4_comeTo_157 : decode cX4_comeTo 157 = .ok (.iload_n 2, 1) := by decide +kernel
theorem dX4_comeTo_158 : decode cX4_comeTo 158 = .ok (.ireturn, 1) := by decide +kernel
theorem dX4_settle_0 : decode cX4_settle 0 = .ok (.iconst 0, 1) := by decide +kernel
theorem dX4_settle_1 : decode cX4_settle 1 = .ok (.istore_n 1, 1) := by decide +kernel
theorem dX4_settle_2 : decode cX4_settle 2 = .ok (.iload_n 1, 1) := by decide +kernel
theorem dX4_settle_3 : decode cX4_settle 3 = .ok (.bipush 12, 2) := by decide +kernel
theorem dX4_settle_5 : decode cX4_settle 5 = .ok (.if_icmp .ge 41, 3) := by decide +kernel
theorem dX4_settle_8 : decode cX4_settle 8 = .ok (.aload_n 0, 1) := by decide +kernel
theorem dX4_settle_9 : decode cX4_settle 9 = .ok (.getfield 52, 3) := by decide +kernel
theorem dX4_settle_12 : decode cX4_settle 12 = .ok (.iload_n 1, 1) := by decide +kernel
theorem dX4_settle_13 : decode cX4_settle 13 = .ok (.invokevirtual 257, 3) := by decide +kernel
theorem dX4_settle_16 : decode cX4_settle 16 = .ok (.ifCond .eq 24, 3) := by decide +kernel
theorem dX4_settle_19 : decode cX4_settle 19 = .ok (.aload_n 0, 1) := by decide +kernel
theorem dX4_settle_20 : decode cX4_settle 20 = .ok (.getfield 52, 3) := by decide +kernel
theorem dX4_settle_23 : decode cX4_settle 23 = .ok (.iload_n 1, 1) := by decide +kernel
theorem dX4_settle_24 : decode cX4_settle 24 = .ok (.invokevirtual 261, 3) := by decide +kernel
theorem dX4_settle_27 : decode cX4_settle 27 = .ok (.ifCond .ne 8, 3) := by decide +kernel
theorem dX4_settle_30 : decode cX4_settle 30 = .ok (.aload_n 0, 1) := by decide +kernel
theorem dX4_settle_31 : decode cX4_settle 31 = .ok (.iload_n 1, 1) := by decide +kernel
theorem dX4_settle_32 : decode cX4_settle 32 = .ok (.invokevirtual 264, 3) := by decide +kernel
theorem dX4_settle_35 : decode cX4_settle 35 = .ok (.aload_n 0, 1) := by decide +kernel
theorem dX4_settle_36 : decode cX4_settle 36 = .ok (.iload_n 1, 1) := by decide +kernel
theorem dX4_settle_37 : decode cX4_settle 37 = .ok (.invokevirtual 267, 3) := by decide +kernel
theorem dX4_settle_40 : decode cX4_settle 40 = .ok (.iinc 1 1, 3) := by decide +kernel
theorem dX4_settle_43 : decode cX4_settle 43 = .ok (.goto (-41), 3) := by decide +kernel
theorem dX4_settle_46 : decode cX4_settle 46 = .ok (.aload_n 0, 1) := by decide +kernel
theorem dX4_settle_47 : decode cX4_settle 47 = .ok (.getfield 52, 3) := by decide +kernel
theorem dX4_settle_50 : decode cX4_settle 50 = .ok (.invokevirtual 270, 3) := by decide +kernel
theorem dX4_settle_53 : decode cX4_settle 53 = .ok (.return_, 1) := by decide +kernel
theorem dX4_isIn_0 : decode cX4_isIn 0 = .ok (.lload_n 0, 1) := by decide +kernel
theorem dX4_isIn_1 : decode cX4_isIn 1 = .ok (.iload_n 2, 1) := by decide +kernel
theorem dX4_isIn_2 : decode cX4_isIn 2 = .ok (.lshr, 1) := by decide +kernel
theorem dX4_isIn_3 : decode cX4_isIn 3 = .ok (.lconst 1, 1) := by decide +kernel
theorem dX4_isIn_4 : decode cX4_isIn 4 = .ok (.land, 1) := by decide +kernel
theorem dX4_isIn_5 : decode cX4_isIn 5 = .ok (.lconst 0, 1) := by decide +kernel
theorem dX4_isIn_6 : decode cX4_isIn 6 = .ok (.lcmp, 1) := by decide +kernel
theorem dX4_isIn_7 : decode cX4_isIn 7 = .ok (.ifCond .eq 7, 3) := by decide +kernel
theorem dX4_isIn_10 : decode cX4_isIn 10 = .ok (.iconst 1, 1) := by decide +kernel
theorem dX4_isIn_11 : decode cX4_isIn 11 = .ok (.goto 4, 3) := by decide +kernel
theorem dX4_isIn_14 : decode cX4_isIn 14 = .ok (.iconst 0, 1) := by decide +kernel
theorem dX4_isIn_15 : decode cX4_isIn 15 = .ok (.ireturn, 1) := by decide +kernel
theorem dX4_single_0 : decode cX4_single 0 = .ok (.iload_n 0, 1) := by decide +kernel
theorem dX4_single_1 : decode cX4_single 1 = .ok (.iconst (-1), 1) := by decide +kernel
theorem dX4_single_2 : decode cX4_single 2 = .ok (.if_icmp .ne 7, 3) := by decide +kernel
theorem dX4_single_5 : decode cX4_single 5 = .ok (.iconst 0, 1) := by decide +kernel
theorem dX4_single_6 : decode cX4_single 6 = .ok (.goto 6, 3) := by decide +kernel
theorem dX4_single_9 : decode cX4_single 9 = .ok (.iconst 1, 1) := by decide +kernel
theorem dX4_single_10 : decode cX4_single 10 = .ok (.iload_n 0, 1) := by decide +kernel
theorem dX4_single_11 : decode cX4_single 11 = .ok (.ishl, 1) := by decide +kernel
theorem dX4_single_12 : decode cX4_single 12 = .ok (.ireturn, 1) := by decide +kernel
theorem dX4_blocksOfPiece_0 : decode cX4_blocksOfPiece 0 = .ok (.ldc2_w 273, 3) := by decide +kernel
theorem dX4_blocksOfPiece_3 : decode cX4_blocksOfPiece 3 = .ok (.iload_n 0, 1) := by decide +kernel
theorem dX4_blocksOfPiece_4 : decode cX4_blocksOfPiece 4 = .ok (.iconst 4, 1) := by decide +kernel
theorem dX4_blocksOfPiece_5 : decode cX4_blocksOfPiece 5 = .ok (.imul, 1) := by decide +kernel
theorem dX4_blocksOfPiece_6 : decode cX4_blocksOfPiece 6 = .ok (.lshl, 1) := by decide +kernel
theorem dX4_blocksOfPiece_7 : decode cX4_blocksOfPiece 7 = .ok (.lreturn, 1) := by decide +kernel
theorem dX4_blocksOf_0 : decode cX4_blocksOf 0 = .ok (.lconst 0, 1) := by decide +kernel
theorem dX4_blocksOf_1 : decode cX4_blocksOf 1 = .ok (.lstore_n 1, 1) := by decide +kernel
theorem dX4_blocksOf_2 : decode cX4_blocksOf 2 = .ok (.iconst 0, 1) := by decide +kernel
theorem dX4_blocksOf_3 : decode cX4_blocksOf 3 = .ok (.istore_n 3, 1) := by decide +kernel
theorem dX4_blocksOf_4 : decode cX4_blocksOf 4 = .ok (.iload_n 3, 1) := by decide +kernel
theorem dX4_blocksOf_5 : decode cX4_blocksOf 5 = .ok (.bipush 12, 2) := by decide +kernel
theorem dX4_blocksOf_7 : decode cX4_blocksOf 7 = .ok (.if_icmp .ge 25, 3) := by decide +kernel
theorem dX4_blocksOf_10 : decode cX4_blocksOf 10 = .ok (.iload_n 0, 1) := by decide +kernel
theorem dX4_blocksOf_11 : decode cX4_blocksOf 11 = .ok (.i2l, 1) := by decide +kernel
theorem dX4_blocksOf_12 : decode cX4_blocksOf 12 = .ok (.iload_n 3, 1) := by decide +kernel
theorem dX4_blocksOf_13 : decode cX4_blocksOf 13 = .ok (.invokestatic 86, 3) := by decide +kernel
theorem dX4_blocksOf_16 : decode cX4_blocksOf 16 = .ok (.ifCond .eq 10, 3) := by decide +kernel
theorem dX4_blocksOf_19 : decode cX4_blocksOf 19 = .ok (.lload_n 1, 1) := by decide +kernel
theorem dX4_blocksOf_20 : decode cX4_blocksOf 20 = .ok (.iload_n 3, 1) := by decide +kernel
theorem dX4_blocksOf_21 : decode cX4_blocksOf 21 = .ok (.invokestatic 216, 3) := by decide +kernel
theorem dX4_blocksOf_24 : decode cX4_blocksOf 24 = .ok (.lor, 1) := by decide +kernel
theorem dX4_blocksOf_25 : decode cX4_blocksOf 25 = .ok (.lstore_n 1, 1) := by decide +kernel
theorem dX4_blocksOf_26 : decode cX4_blocksOf 26 = .ok (.iinc 3 1, 3) := by decide +kernel
theorem dX4_blocksOf_29 : decode cX4_blocksOf 29 = .ok (.goto (-25), 3) := by decide +kernel
theorem dX4_blocksOf_32 : decode cX4_blocksOf 32 = .ok (.lload_n 1, 1) := by decide +kernel
theorem dX4_blocksOf_33 : decode cX4_blocksOf 33 = .ok (.lreturn, 1) := by decide +kernel
theorem dX4_findLowest_0 : decode cX4_findLowest 0 = .ok (.iconst 0, 1) := by decide +kernel
theorem dX4_findLowest_1 : decode cX4_findLowest 1 = .ok (.istore_n 2, 1) := by decide +kernel
theorem dX4_findLowest_2 : decode cX4_findLowest 2 = .ok (.iload_n 2, 1) := by decide +kernel
theorem dX4_findLowest_3 : decode cX4_findLowest 3 = .ok (.bipush 48, 2) := by decide +kernel
theorem dX4_findLowest_5 : decode cX4_findLowest 5 = .ok (.if_icmp .ge 19, 3) := by decide +kernel
theorem dX4_findLowest_8 : decode cX4_findLowest 8 = .ok (.lload_n 0, 1) := by decide +kernel
theorem dX4_findLowest_9 : decode cX4_findLowest 9 = .ok (.iload_n 2, 1) := by decide +kernel
theorem dX4_findLowest_10 : decode cX4_findLowest 10 = .ok (.invokestatic 86, 3) := by decide +kernel
theorem dX4_findLowest_13 : decode cX4_findLowest 13 = .ok (.ifCond .eq 5, 3) := by decide +kernel
theorem dX4_findLowest_16 : decode cX4_findLowest 16 = .ok (.iload_n 2, 1) := by decide +kernel
theorem dX4_findLowest_17 : decode cX4_findLowest 17 = .ok (.ireturn, 1) := by decide +kernel
theorem dX4_findLowest_18 : decode cX4_findLowest 18 = .ok (.iinc 2 1, 3) := by decide +kernel
theorem dX4_findLowest_21 : decode cX4_findLowest 21 = .ok (.goto (-19), 3) := by decide +kernel
theorem dX4_findLowest_24 : decode cX4_findLowest 24 = .ok (.iconst (-1), 1) := by decide +kernel
theorem dX4_findLowest_25 : decode cX4_findLowest 25 = .ok (.ireturn, 1) := by decide +kernel
theorem dX5_init_0 : decode cX5_init 0 = .ok (.aload_n 0, 1) := by decide +kernel
theorem dX5_init_1 : decode cX5_init 1 = .ok (.invokespecial 1, 3) := by decide +kernel
theorem dX5_init_4 : decode cX5_init 4 = .ok (.aload_n 0, 1) := by decide +kernel
theorem dX5_init_5 : decode cX5_init 5 = .ok (.bipush 12, 2) := by decide +kernel
theorem dX5_init_7 : decode cX5_init 7 = .ok (.newarray .int, 2) := by decide +kernel
theorem dX5_init_9 : decode cX5_init 9 = .ok (.putfield 7, 3) := by decide +kernel
theorem dX5_init_12 : decode cX5_init 12 = .ok (.aload_n 0, 1) := by decide +kernel
theorem dX5_init_13 : decode cX5_init 13 = .ok (.bipush 6, 2) := by decide +kernel
theorem dX5_init_15 : decode cX5_init 15 = .ok (.newarray .boolean, 2) := by decide +kernel
theorem dX5_init_17 : decode cX5_init 17 = .ok (.putfield 13, 3) := by decide +kernel
theorem dX5_init_20 : decode cX5_init 20 = .ok (.aload_n 0, 1) := by decide +kernel
theorem dX5_init_21 : decode cX5_init 21 = .ok (.bipush 6, 2) := by decide +kernel
theorem dX5_init_23 : decode cX5_init 23 = .ok (.newarray .int, 2) := by decide +kernel
theorem dX5_init_25 : decode cX5_init 25 = .ok (.putfield 17, 3) := by decide +kernel
theorem dX5_init_28 : decode cX5_init 28 = .ok (.aload_n 0, 1) := by decide +kernel
theorem dX5_init_29 : decode cX5_init 29 = .ok (.bipush 6, 2) := by decide +kernel
theorem dX5_init_31 : decode cX5_init 31 = .ok (.newarray .boolean, 2) := by decide +kernel
theorem dX5_init_33 : decode cX5_init 33 = .ok (.putfield 20, 3) := by decide +kernel
theorem dX5_init_36 : decode cX5_init 36 = .ok (.aload_n 0, 1) := by decide +kernel
theorem dX5_init_37 : decode cX5_init 37 = .ok (.bipush 6, 2) := by decide +kernel
theorem dX5_init_39 : decode cX5_init 39 = .ok (.newarray .boolean, 2) := by decide +kernel
theorem dX5_init_41 : decode cX5_init 41 = .ok (.putfield 23, 3) := by decide +kernel
theorem dX5_init_44 : decode cX5_init 44 = .ok (.aload_n 0, 1) := by decide +kernel
theorem dX5_init_45 : decode cX5_init 45 = .ok (.bipush 6, 2) := by decide +kernel
theorem dX5_init_47 : decode cX5_init 47 = .ok (.newarray .int, 2) := by decide +kernel
theorem dX5_init_49 : decode cX5_init 49 = .ok (.putfield 26, 3) := by decide +kernel
theorem dX5_init_52 : decode cX5_init 52 = .ok (.aload_n 0, 1) := by decide +kernel
theorem dX5_init_53 : decode cX5_init 53 = .ok (.bipush 6, 2) := by decide +kernel
theorem dX5_init_55 : decode cX5_init 55 = .ok (.newarray .int, 2) := by decide +kernel
theorem dX5_init_57 : decode cX5_init 57 = .ok (.putfield 29, 3) := by decide +kernel
theorem dX5_init_60 : decode cX5_init 60 = .ok (.aload_n 0, 1) := by decide +kernel
theorem dX5_init_61 : decode cX5_init 61 = .ok (.bipush 72, 2) := by decide +kernel
theorem dX5_init_63 : decode cX5_init 63 = .ok (.newarray .int, 2) := by decide +kernel
theorem dX5_init_65 : decode cX5_init 65 = .ok (.putfield 32, 3) := by decide +kernel
theorem dX5_init_68 : decode cX5_init 68 = .ok (.aload_n 0, 1) := by decide +kernel
theorem dX5_init_69 : decode cX5_init 69 = .ok (.bipush 72, 2) := by decide +kernel
theorem dX5_init_71 : decode cX5_init 71 = .ok (.newarray .int, 2) := by decide +kernel
theorem dX5_init_73 : decode cX5_init 73 = .ok (.putfield 35, 3) := by decide +kernel
theorem dX5_init_76 : decode cX5_init 76 = .ok (.aload_n 0, 1) := by decide +kernel
theorem dX5_init_77 : decode cX5_init 77 = .ok (.bipush 72, 2) := by decide +kernel
theorem dX5_init_79 : decode cX5_init 79 = .ok (.newarray .int, 2) := by decide +kernel
theorem dX5_init_81 : decode cX5_init 81 = .ok (.putfield 38, 3) := by decide +kernel
theorem dX5_init_84 : decode cX5_init 84 = .ok (.aload_n 0, 1) := by decide +kernel
theorem dX5_init_85 : decode cX5_init 85 = .ok (.sipush 288, 3) := by decide +kernel
theorem dX5_init_88 : decode cX5_init 88 = .ok (.newarray .int, 2) := by decide +kernel
theorem dX5_init_90 : decode cX5_init 90 = .ok (.putfield 41, 3) := by decide +kernel
theorem dX5_init_93 : decode cX5_init 93 = .ok (.aload_n 0, 1) := by decide +kernel
theorem dX5_init_94 : decode cX5_init 94 = .ok (.bipush 36, 2) := by decide +kernel
theorem dX5_init_96 : decode cX5_init 96 = .ok (.newarray .int, 2) := by decide +kernel
theorem dX5_init_98 : decode cX5_init 98 = .ok (.putfield 44, 3) := by decide +kernel
theorem dX5_init_101 : decode cX5_init 101 = .ok (.aload_n 0, 1) := by decide +kernel
theorem dX5_init_102 : decode cX5_init 102 = .ok (.bipush 36, 2) := by decide +kernel
theorem dX5_init_104 : decode cX5_init 104 = .ok (.newarray .int, 2) := by decide +kernel
theorem dX5_init_106 : decode cX5_init 106 = .ok (.putfield 47, 3) := by decide +kernel
theorem dX5_init_109 : decode cX5_init 109 = .ok (.aload_n 0, 1) := by decide +kernel
theorem dX5_init_110 : decode cX5_init 110 = .ok (.bipush 36, 2) := by decide +kernel
theorem dX5_init_112 : decode cX5_init 112 = .ok (.newarray .boolean, 2) := by decide +kernel
theorem dX5_init_114 : decode cX5_init 114 = .ok (.putfield 50, 3) := by decide +kernel
theorem dX5_init_117 : decode cX5_init 117 = .ok (.aload_n 0, 1) := by decide +kernel
theorem dX5_init_118 : decode cX5_init 118 = .ok (.bipush 36, 2) := by decide +kernel
theorem dX5_init_120 : decode cX5_init 120 = .ok (.newarray .int, 2) := by decide +kernel
theorem dX5_init_122 : decode cX5_init 122 = .ok (.putfield 53, 3) := by decide +kernel
theorem dX5_init_125 : decode cX5_init 125 = .ok (.aload_n 0, 1) := by decide +kernel
theorem dX5_init_126 : decode cX5_init 126 = .ok (.bipush 6, 2) := by decide +kernel
theorem dX5_init_128 : decode cX5_init 128 = .ok (.newarray .int, 2) := by decide +kernel
theorem dX5_init_130 : decode cX5_init 130 = .ok (.putfield 56, 3) := by decide +kernel
theorem dX5_init_133 : decode cX5_init 133 = .ok (.aload_n 0, 1) := by decide +kernel
theorem dX5_init_134 : decode cX5_init 134 = .ok (.bipush 36, 2) := by decide +kernel
theorem dX5_init_136 : decode cX5_init 136 = .ok (.newarray .int, 2) := by decide +kernel
theorem dX5_init_138 : decode cX5_init 138 = .ok (.putfield 59, 3) := by decide +kernel
theorem dX5_init_141 : decode cX5_init 141 = .ok (.aload_n 0, 1) := by decide +kernel
theorem dX5_init_142 : decode cX5_init 142 = .ok (.bipush 36, 2) := by decide +kernel
theorem dX5_init_144 : decode cX5_init 144 = .ok (.newarray .int, 2) := by decide +kernel
theorem dX5_init_146 : decode cX5_init 146 = .ok (.putfield 62, 3) := by decide +kernel
theorem dX5_init_149 : decode cX5_init 149 = .ok (.aload_n 0, 1) := by decide +kernel
theorem dX5_init_150 : decode cX5_init 150 = .ok (.bipush 36, 2) := by decide +kernel
theorem dX5_init_152 : decode cX5_init 152 = .ok (.newarray .int, 2) := by decide +kernel
theorem dX5_init_154 : decode cX5_init 154 = .ok (.putfield 65, 3) := by decide +kernel
theorem dX5_init_157 : decode cX5_init 157 = .ok (.iconst 0, 1) := by decide +kernel
theorem dX5_init_158 : decode cX5_init 158 = .ok (.istore_n 1, 1) := by decide +kernel
theorem dX5_init_159 : decode cX5_init 159 = .ok (.iload_n 1, 1) := by decide +kernel
theorem dX5_init_160 : decode cX5_init 160 = .ok (.bipush 12, 2) := by decide +kernel
theorem dX5_init_162 : decode cX5_init 162 = .ok (.if_icmp .ge 16, 3) := by decide +kernel
theorem dX5_init_165 : decode cX5_init 165 = .ok (.aload_n 0, 1) := by decide +kernel
theorem dX5_init_166 : decode cX5_init 166 = .ok (.getfield 7, 3) := by decide +kernel
theorem dX5_init_169 : decode cX5_init 169 = .ok (.iload_n 1, 1) := by decide +kernel
theorem dX5_init_170 : decode cX5_init 170 = .ok (.iconst 1, 1) := by decide +kernel
theorem dX5_init_171 : decode cX5_init 171 = .ok (.iastore, 1) := by decide +kernel
theorem dX5_init_172 : decode cX5_init 172 = .ok (.iinc 1 1, 3) := by decide +kernel
theorem dX5_init_175 : decode cX5_init 175 = .ok (.goto (-16), 3) := by decide +kernel
theorem dX5_init_178 : decode cX5_init 178 = .ok (.return_, 1) := by decide +kernel
theorem dX5_thrown_0 : decode cX5_thrown 0 = .ok (.aload_n 0, 1) := by decide +kernel
theorem dX5_thrown_1 : decode cX5_thrown 1 = .ok (.getfield 68, 3) := by decide +kernel
theorem dX5_thrown_4 : decode cX5_thrown 4 = .ok (.ireturn, 1) := by decide +kernel
theorem dX5_fits_0 : decode cX5_fits 0 = .ok (.aload_n 0, 1) := by decide +kernel
theorem dX5_fits_1 : decode cX5_fits 1 = .ok (.iload_n 1, 1) := by decide +kernel
theorem dX5_fits_2 : decode cX5_fits 2 = .ok (.putfield 68, 3) := by decide +kernel
theorem dX5_fits_5 : decode cX5_fits 5 = .ok (.iload_n 1, 1) := by decide +kernel
theorem dX5_fits_6 : decode cX5_fits 6 = .ok (.ifCond .ne 7, 3) := by decide +kernel
theorem dX5_fits_9 : decode cX5_fits 9 = .ok (.iconst 1, 1) := by decide +kernel
theorem dX5_fits_10 : decode cX5_fits 10 = .ok (.goto 4, 3) := by decide +kernel
theorem dX5_fits_13 : decode cX5_fits 13 = .ok (.iconst 0, 1) := by decide +kernel
theorem dX5_fits_14 : decode cX5_fits 14 = .ok (.ireturn, 1) := by decide +kernel
theorem dX5_has_0 : decode cX5_has 0 = .ok (.iload_n 0, 1) := by decide +kernel
theorem dX5_has_1 : decode cX5_has 1 = .ok (.iload_n 1, 1) := by decide +kernel
theorem dX5_has_2 : decode cX5_has 2 = .ok (.ishr, 1) := by decide +kernel
theorem dX5_has_3 : decode cX5_has 3 = .ok (.iconst 1, 1) := by decide +kernel
theorem dX5_has_4 : decode cX5_has 4 = .ok (.iand, 1) := by decide +kernel
theorem dX5_has_5 : decode cX5_has 5 = .ok (.iconst 1, 1) := by decide +kernel
theorem dX5_has_6 : decode cX5_has 6 = .ok (.if_icmp .ne 7, 3) := by decide +kernel
theorem dX5_has_9 : decode cX5_has 9 = .ok (.iconst 1, 1) := by decide +kernel
theorem dX5_has_10 : decode cX5_has 10 = .ok (.goto 4, 3) := by decide +kernel
theorem dX5_has_13 : decode cX5_has 13 = .ok (.iconst 0, 1) := by decide +kernel
theorem dX5_has_14 : decode cX5_has 14 = .ok (.ireturn, 1) := by decide +kernel
theorem dX5_isPeer_0 : decode cX5_isPeer 0 = .ok (.iload_n 1, 1) := by decide +kernel
theorem dX5_isPeer_1 : decode cX5_isPeer 1 = .ok (.ifCond .lt 24, 3) := by decide +kernel
theorem dX5_isPeer_4 : decode cX5_isPeer 4 = .ok (.iload_n 1, 1) := by decide +kernel
theorem dX5_isPeer_5 : decode cX5_isPeer 5 = .ok (.aload_n 0, 1) := by decide +kernel
theorem dX5_isPeer_6 : decode cX5_isPeer 6 = .ok (.getfield 72, 3) := by decide +kernel
theorem dX5_isPeer_9 : decode cX5_isPeer 9 = .ok (.if_icmp .ge 16, 3) := by decide +kernel
theorem dX5_isPeer_12 : decode cX5_isPeer 12 = .ok (.aload_n 0, 1) := by decide +kernel
theorem dX5_isPeer_13 : decode cX5_isPeer 13 = .ok (.getfield 13, 3) := by decide +kernel
theorem dX5_isPeer_16 : decode cX5_isPeer 16 = .ok (.iload_n 1, 1) := by decide +kernel
theorem dX5_isPeer_17 : decode cX5_isPeer 17 = .ok (.baload, 1) := by decide +kernel
theorem dX5_isPeer_18 : decode cX5_isPeer 18 = .ok (.ifCond .eq 7, 3) := by decide +kernel
theorem dX5_isPeer_21 : decode cX5_isPeer 21 = .ok (.iconst 1, 1) := by decide +kernel
theorem dX5_isPeer_22 : decode cX5_isPeer 22 = .ok (.goto 4, 3) := by decide +kernel
theorem dX5_isPeer_25 : decode cX5_isPeer 25 = .ok (.iconst 0, 1) := by decide +kernel
theorem dX5_isPeer_26 : decode cX5_isPeer 26 = .ok (.ireturn, 1) := by decide +kernel
theorem dX5_isPiece_0 : decode cX5_isPiece 0 = .ok (.iload_n 0, 1) := by decide +kernel
theorem dX5_isPiece_1 : decode cX5_isPiece 1 = .ok (.ifCond .lt 13, 3) := by decide +kernel
theorem dX5_isPiece_4 : decode cX5_isPiece 4 = .ok (.iload_n 0, 1) := by decide +kernel
theorem dX5_isPiece_5 : decode cX5_isPiece 5 = .ok (.bipush 12, 2) := by decide +kernel
theorem dX5_isPiece_7 : decode cX5_isPiece 7 = .ok (.if_icmp .ge 7, 3) := by decide +kernel
theorem dX5_isPiece_10 : decode cX5_isPiece 10 = .ok (.iconst 1, 1) := by decide +kernel
theorem dX5_isPiece_11 : decode cX5_isPiece 11 = .ok (.goto 4, 3) := by decide +kernel
theorem dX5_isPiece_14 : decode cX5_isPiece 14 = .ok (.iconst 0, 1) := by decide +kernel
theorem dX5_isPiece_15 : decode cX5_isPiece 15 = .ok (.ireturn, 1) := by decide +kernel
theorem dX5_at_0 : decode cX5_at 0 = .ok (.bipush 12, 2) := by decide +kernel
theorem dX5_at_2 : decode cX5_at 2 = .ok (.iload_n 0, 1) := by decide +kernel
theorem dX5_at_3 : decode cX5_at 3 = .ok (.imul, 1) := by decide +kernel
theorem dX5_at_4 : decode cX5_at 4 = .ok (.iload_n 1, 1) := by decide +kernel
theorem dX5_at_5 : decode cX5_at 5 = .ok (.iadd, 1) := by decide +kernel
theorem dX5_at_6 : decode cX5_at 6 = .ok (.ireturn, 1) := by decide +kernel
theorem dX5_pair_0 : decode cX5_pair 0 = .ok (.bipush 6, 2) := by decide +kernel
theorem dX5_pair_2 : decode cX5_pair 2 = .ok (.iload_n 0, 1) := by decide +kernel
theorem dX5_pair_3 : decode cX5_pair 3 = .ok (.imul, 1) := by decide +kernel
theorem dX5_pair_4 : decode cX5_pair 4 = .ok (.iload_n 1, 1) := by decide +kernel
theorem dX5_pair_5 : decode cX5_pair 5 = .ok (.iadd, 1) := by decide +kernel
theorem dX5_pair_6 : decode cX5_pair 6 = .ok (.ireturn, 1) := by decide +kernel
theorem dX5_count_0 : decode cX5_count 0 = .ok (.iconst 0, 1) := by decide +kernel
theorem dX5_count_1 : decode cX5_count 1 = .ok (.istore_n 1, 1) := by decide +kernel
theorem dX5_count_2 : decode cX5_count 2 = .ok (.iconst 0, 1) := by decide +kernel
theorem dX5_count_3 : decode cX5_count 3 = .ok (.istore_n 2, 1) := by decide +kernel
theorem dX5_count_4 : decode cX5_count 4 = .ok (.iload_n 2, 1) := by decide +kernel
theorem dX5_count_5 : decode cX5_count 5 = .ok (.bipush 12, 2) := by decide +kernel
theorem dX5_count_7 : decode cX5_count 7 = .ok (.if_icmp .ge 17, 3) := by decide +kernel
theorem dX5_count_10 : decode cX5_count 10 = .ok (.iload_n 1, 1) := by decide +kernel
theorem dX5_count_11 : decode cX5_count 11 = .ok (.iload_n 0, 1) := by decide +kernel
theorem dX5_count_12 : decode cX5_count 12 = .ok (.iload_n 2, 1) := by decide +kernel
theorem dX5_count_13 : decode cX5_count 13 = .ok (.ishr, 1) := by decide +kernel
theorem dX5_count_14 : decode cX5_count 14 = .ok (.iconst 1, 1) := by decide +kernel
theorem dX5_count_15 : decode cX5_count 15 = .ok (.iand, 1) := by decide +kernel
theorem dX5_count_16 : decode cX5_count 16 = .ok (.iadd, 1) := by decide +kernel
theorem dX5_count_17 : decode cX5_count 17 = .ok (.istore_n 1, 1) := by decide +kernel
theorem dX5_count_18 : decode cX5_count 18 = .ok (.iinc 2 1, 3) := by decide +kernel
theorem dX5_count_21 : decode cX5_count 21 = .ok (.goto (-17), 3) := by decide +kernel
theorem dX5_count_24 : decode cX5_count 24 = .ok (.iload_n 1, 1) := by decide +kernel
theorem dX5_count_25 : decode cX5_count 25 = .ok (.ireturn, 1) := by decide +kernel
theorem dX5_join_0 : decode cX5_join 0 = .ok (.aload_n 0, 1) := by decide +kernel
theorem dX5_join_1 : decode cX5_join 1 = .ok (.aload_n 0, 1) := by decide +kernel
theorem dX5_join_2 : decode cX5_join 2 = .ok (.getfield 72, 3) := by decide +kernel
theorem dX5_join_5 : decode cX5_join 5 = .ok (.bipush 6, 2) := by decide +kernel
theorem dX5_join_7 : decode cX5_join 7 = .ok (.if_icmp .ne 7, 3) := by decide +kernel
theorem dX5_join_10 : decode cX5_join 10 = .ok (.iconst 1, 1) := by decide +kernel
theorem dX5_join_11 : decode cX5_join 11 = .ok (.goto 4, 3) := by decide +kernel
theorem dX5_join_14 : decode cX5_join 14 = .ok (.iconst 0, 1) := by decide +kernel
theorem dX5_join_15 : decode cX5_join 15 = .ok (.invokevirtual 75, 3) := by decide +kernel
theorem dX5_join_18 : decode cX5_join 18 = .ok (.ifCond .ne 5, 3) := by decide +kernel
theorem dX5_join_21 : decode cX5_join 21 = .ok (.iconst 0, 1) := by decide +kernel
theorem dX5_join_22 : decode cX5_join 22 = .ok (.ireturn, 1) := by decide +kernel
theorem dX5_join_23 : decode cX5_join 23 = .ok (.aload_n 0, 1) := by decide +kernel
theorem dX5_join_24 : decode cX5_join 24 = .ok (.getfield 13, 3) := by decide +kernel
theorem dX5_join_27 : decode cX5_join 27 = .ok (.aload_n 0, 1) := by decide +kernel
theorem dX5_join_28 : decode cX5_join 28 = .ok (.getfield 72, 3) := by decide +kernel
theorem dX5_join_31 : decode cX5_join 31 = .ok (.iconst 1, 1) := by decide +kernel
theorem dX5_join_32 : decode cX5_join 32 = .ok (.bastore, 1) := by decide +kernel
theorem dX5_join_33 : decode cX5_join 33 = .ok (.aload_n 0, 1) := by decide +kernel
theorem dX5_join_34 : decode cX5_join 34 = .ok (.getfield 17, 3) := by decide +kernel
theorem dX5_join_37 : decode cX5_join 37 = .ok (.aload_n 0, 1) := by decide +kernel
theorem dX5_join_38 : decode cX5_join 38 = .ok (.getfield 72, 3) := by decide +kernel
theorem dX5_join_41 : decode cX5_join 41 = .ok (.iload_n 1, 1) := by decide +kernel
theorem dX5_join_42 : decode cX5_join 42 = .ok (.ifCond .eq 9, 3) := by decide +kernel
theorem dX5_join_45 : decode cX5_join 45 = .ok (.sipush 4095, 3) := by decide +kernel
theorem dX5_join_48 : decode cX5_join 48 = .ok (.goto 4, 3) := by decide +kernel
theorem dX5_join_51 : decode cX5_join 51 = .ok (.iconst 0, 1) := by decide +kernel
theorem dX5_join_52 : decode cX5_join 52 = .ok (.iastore, 1) := by decide +kernel
theorem dX5_join_53 : decode cX5_join 53 = .ok (.aload_n 0, 1) := by decide +kernel
theorem dX5_join_54 : decode cX5_join 54 = .ok (.dup, 1) := by decide +kernel
theorem dX5_join_55 : decode cX5_join 55 = .ok (.getfield 72, 3) := by decide +kernel
theorem dX5_join_58 : decode cX5_join 58 = .ok (.iconst 1, 1) := by decide +kernel
theorem dX5_join_59 : decode cX5_join 59 = .ok (.iadd, 1) := by decide +kernel
theorem dX5_join_60 : decode cX5_join 60 = .ok (.putfield 72, 3) := by decide +kernel
theorem dX5_join_63 : decode cX5_join 63 = .ok (.aload_n 0, 1) := by decide +kernel
theorem dX5_join_64 : decode cX5_join 64 = .ok (.getfield 72, 3) := by decide +kernel
theorem dX5_join_67 : decode cX5_join 67 = .ok (.iconst 1, 1) := by decide +kernel
theorem dX5_join_68 : decode cX5_join 68 = .ok (.isub, 1) := by decide +kernel
theorem dX5_join_69 : decode cX5_join 69 = .ok (.ireturn, 1) := by decide +kernel
theorem dX5_leave_0 : decode cX5_leave 0 = .ok (.aload_n 0, 1) := by decide +kernel
theorem dX5_leave_1 : decode cX5_leave 1 = .ok (.aload_n 0, 1) := by decide +kernel
theorem dX5_leave_2 : decode cX5_leave 2 = .ok (.iload_n 1, 1) := by decide +kernel
theorem dX5_leave_3 : decode cX5_leave 3 = .ok (.invokevirtual 79, 3) := by decide +kernel
theorem dX5_leave_6 : decode cX5_leave 6 = .ok (.ifCond .eq 7, 3) := by decide +kernel
theorem dX5_leave_9 : decode cX5_leave 9 = .ok (.iconst 0, 1) := by decide +kernel
theorem dX5_leave_10 : decode cX5_leave 10 = .ok (.goto 4, 3) := by decide +kernel
theorem dX5_leave_13 : decode cX5_leave 13 = .ok (.iconst 1, 1) := by decide +kernel
theorem dX5_leave_14 : decode cX5_leave 14 = .ok (.invokevirtual 75, 3) := by decide +kernel
theorem dX5_leave_17 : decode cX5_leave 17 = .ok (.ifCond .ne 5, 3) := by decide +kernel
theorem dX5_leave_20 : decode cX5_leave 20 = .ok (.iconst 0, 1) := by decide +kernel
theorem dX5_leave_21 : decode cX5_leave 21 = .ok (.ireturn, 1) := by decide +kernel
theorem dX5_leave_22 : decode cX5_leave 22 = .ok (.aload_n 0, 1) := by decide +kernel
theorem dX5_leave_23 : decode cX5_leave 23 = .ok (.getfield 13, 3) := by decide +kernel
theorem dX5_leave_26 : decode cX5_leave 26 = .ok (.iload_n 1, 1) := by decide +kernel
theorem dX5_leave_27 : decode cX5_leave 27 = .ok (.iconst 0, 1) := by decide +kernel
theorem dX5_leave_28 : decode cX5_leave 28 = .ok (.bastore, 1) := by decide +kernel
theorem dX5_leave_29 : decode cX5_leave 29 = .ok (.aload_n 0, 1) := by decide +kernel
theorem dX5_leave_30 : decode cX5_leave 30 = .ok (.getfield 17, 3) := by decide +kernel
theorem dX5_leave_33 : decode cX5_leave 33 = .ok (.iload_n 1, 1) := by decide +kernel
theorem dX5_leave_34 : decode cX5_leave 34 = .ok (.iaload, 1) := by decide +kernel
theorem dX5_leave_35 : decode cX5_leave 35 = .ok (.invokestatic 82, 3) := by decide +kernel
theorem dX5_leave_38 : decode cX5_leave 38 = .ok (.ireturn, 1) := by decide +kernel
theorem dX5_setPriority_0 : decode cX5_setPriority 0 = .ok (.aload_n 0, 1) := by decide +kernel
theorem dX5_setPriority_1 : decode cX5_setPriority 1 = .ok (.iload_n 1, 1) := by decide +kernel
theorem dX5_setPriority_2 : decode cX5_setPriority 2 = .ok (.invokestatic 86, 3) := by decide +kernel
theorem dX5_setPriority_5 : decode cX5_setPriority 5 = .ok (.ifCond .ne 7, 3) := by decide +kernel
theorem dX5_setPriority_8 : decode cX5_setPriority 8 = .ok (.iconst 1, 1) := by decide +kernel
theorem dX5_setPriority_9 : decode cX5_setPriority 9 = .ok (.goto 17, 3) := by decide +kernel
theorem dX5_setPriority_12 : decode cX5_setPriority 12 = .ok (.iload_n 2, 1) := by decide +kernel
theorem dX5_setPriority_13 : decode cX5_setPriority 13 = .ok (.ifCond .lt 8, 3) := by decide +kernel
theorem dX5_setPriority_16 : decode cX5_setPriority 16 = .ok (.iload_n 2, 1) := by decide +kernel
theorem dX5_setPriority_17 : decode cX5_setPriority 17 = .ok (.iconst 3, 1) := by decide +kernel
theorem dX5_setPriority_18 : decode cX5_setPriority 18 = .ok (.if_icmp .le 7, 3) := by decide +kernel
theorem dX5_setPriority_21 : decode cX5_setPriority 21 = .ok (.iconst 2, 1) := by decide +kernel
theorem dX5_setPriority_22 : decode cX5_setPriority 22 = .ok (.goto 4, 3) := by decide +kernel
theorem dX5_setPriority_25 : decode cX5_setPriority 25 = .ok (.iconst 0, 1) := by decide +kernel
theorem dX5_setPriority_26 : decode cX5_setPriority 26 = .ok (.invokevirtual 75, 3) := by decide +kernel
theorem dX5_setPriority_29 : decode cX5_setPriority 29 = .ok (.ifCond .ne 5, 3) := by decide +kernel
theorem dX5_setPriority_32 : decode cX5_setPriority 32 = .ok (.iconst 0, 1) := by decide +kernel
theorem dX5_setPriority_33 : decode cX5_setPriority 33 = .ok (.ireturn, 1) := by decide +kernel
theorem dX5_setPriority_34 : decode cX5_setPriority 34 = .ok (.aload_n 0, 1) := by decide +kernel
theorem dX5_setPriority_35 : decode cX5_setPriority 35 = .ok (.getfield 7, 3) := by decide +kernel
theorem dX5_setPriority_38 : decode cX5_setPriority 38 = .ok (.iload_n 1, 1) := by decide +kernel
theorem dX5_setPriority_39 : decode cX5_setPriority 39 = .ok (.iaload, 1) := by decide +kernel
theorem dX5_setPriority_40 : decode cX5_setPriority 40 = .ok (.istore_n 3, 1) := by decide +kernel
theorem dX5_setPriority_41 : decode cX5_setPriority 41 = .ok (.aload_n 0, 1) := by decide +kernel
theorem dX5_setPriority_42 : decode cX5_setPriority 42 = .ok (.getfield 7, 3) := by decide +kernel
theorem dX5_setPriority_45 : decode cX5_setPriority 45 = .ok (.iload_n 1, 1) := by decide +kernel
theorem dX5_setPriority_46 : decode cX5_setPriority 46 = .ok (.iload_n 2, 1) := by decide +kernel
theorem dX5_setPriority_47 : decode cX5_setPriority 47 = .ok (.iastore, 1) := by decide +kernel
theorem dX5_setPriority_48 : decode cX5_setPriority 48 = .ok (.iload_n 3, 1) := by decide +kernel
theorem dX5_setPriority_49 : decode cX5_setPriority 49 = .ok (.ireturn, 1) := by decide +kernel
theorem dX5_setSequence_0 : decode cX5_setSequence 0 = .ok (.aload_n 0, 1) := by decide +kernel
theorem dX5_setSequence_1 : decode cX5_setSequence 1 = .ok (.aload_n 0, 1) := by decide +kernel
theorem dX5_setSequence_2 : decode cX5_setSequence 2 = .ok (.iload_n 1, 1) := by decide +kernel
theorem dX5_setSequence_3 : decode cX5_setSequence 3 = .ok (.invokevirtual 79, 3) := by decide +kernel
theorem dX5_setSequence_6 : decode cX5_setSequence 6 = .ok (.ifCond .eq 7, 3) := by decide +kernel
theorem dX5_setSequence_9 : decode cX5_setSequence 9 = .ok (.iconst 0, 1) := by decide +kernel
theorem dX5_setSequence_10 : decode cX5_setSequence 10 = .ok (.goto 4, 3) := by decide +kernel
theorem dX5_setSequence_13 : decode cX5_setSequence 13 = .ok (.iconst 1, 1) := by decide +kernel
theorem dX5_setSequence_14 : decode cX5_setSequence 14 = .ok (.invokevirtual 75, 3) := by decide +kernel
theorem dX5_setSequence_17 : decode cX5_setSequence 17 = .ok (.ifCond .ne 5, 3) := by decide +kernel
theorem dX5_setSequence_20 : decode cX5_setSequence 20 = .ok (.iconst 0, 1) := by decide +kernel
theorem dX5_setSequence_21 : decode cX5_setSequence 21 = .ok (.ireturn, 1) := by decide +kernel
theorem dX5_setSequence_22 : decode cX5_setSequence 22 = .ok (.aload_n 0, 1) := by decide +kernel
theorem dX5_setSequence_23 : decode cX5_setSequence 23 = .ok (.getfield 23, 3) := by decide +kernel
theorem dX5_setSequence_26 : decode cX5_setSequence 26 = .ok (.iload_n 1, 1) := by decide +kernel
theorem dX5_setSequence_27 : decode cX5_setSequence 27 = .ok (.baload, 1) := by decide +kernel
theorem dX5_setSequence_28 : decode cX5_setSequence 28 = .ok (.istore_n 3, 1) := by decide +kernel
theorem dX5_setSequence_29 : decode cX5_setSequence 29 = .ok (.aload_n 0, 1) := by decide +kernel
theorem dX5_setSequence_30 : decode cX5_setSequence 30 = .ok (.getfield 23, 3) := by decide +kernel
theorem dX5_setSequence_33 : decode cX5_setSequence 33 = .ok (.iload_n 1, 1) := by decide +kernel
theorem dX5_setSequence_34 : decode cX5_setSequence 34 = .ok (.iload_n 2, 1) := by decide +kernel
theorem dX5_setSequence_35 : decode cX5_setSequence 35 = .ok (.bastore, 1) := by decide +kernel
theorem dX5_setSequence_36 : decode cX5_setSequence 36 = .ok (.iload_n 3, 1) := by decide +kernel
theorem dX5_setSequence_37 : decode cX5_setSequence 37 = .ok (.iload_n 2, 1) := by decide +kernel
theorem dX5_setSequence_38 : decode cX5_setSequence 38 = .ok (.if_icmp .eq 7, 3) := by decide +kernel
theorem dX5_setSequence_41 : decode cX5_setSequence 41 = .ok (.iconst 1, 1) := by decide +kernel
theorem dX5_setSequence_42 : decode cX5_setSequence 42 = .ok (.goto 4, 3) := by decide +kernel
theorem dX5_setSequence_45 : decode cX5_setSequence 45 = .ok (.iconst 0, 1) := by decide +kernel
theorem dX5_setSequence_46 : decode cX5_setSequence 46 = .ok (.ireturn, 1) := by decide +kernel
theorem dX5_setCareful_0 : decode cX5_setCareful 0 = .ok (.aload_n 0, 1) := by decide +kernel
theorem dX5_setCareful_1 : decode cX5_setCareful 1 = .ok (.aload_n 0, 1) := by decide +kernel
theorem dX5_setCareful_2 : decode cX5_setCareful 2 = .ok (.iload_n 1, 1) := by decide +kernel
theorem dX5_setCareful_3 : decode cX5_setCareful 3 = .ok (.invokevirtual 79, 3) := by decide +kernel
theorem dX5_setCareful_6 : decode cX5_setCareful 6 = .ok (.ifCond .eq 7, 3) := by decide +kernel
theorem dX5_setCareful_9 : decode cX5_setCareful 9 = .ok (.iconst 0, 1) := by decide +kernel
theorem dX5_setCareful_10 : decode cX5_setCareful 10 = .ok (.goto 4, 3) := by decide +kernel
theorem dX5_setCareful_13 : decode cX5_setCareful 13 = .ok (.iconst 1, 1) := by decide +kernel
theorem dX5_setCareful_14 : decode cX5_setCareful 14 = .ok (.invokevirtual 75, 3) := by decide +kernel
theorem dX5_setCareful_17 : decode cX5_setCareful 17 = .ok (.ifCond .ne 5, 3) := by decide +kernel
theorem dX5_setCareful_20 : decode cX5_setCareful 20 = .ok (.iconst 0, 1) := by decide +kernel
theorem dX5_setCareful_21 : decode cX5_setCareful 21 = .ok (.ireturn, 1) := by decide +kernel
theorem dX5_setCareful_22 : decode cX5_setCareful 22 = .ok (.aload_n 0, 1) := by decide +kernel
theorem dX5_setCareful_23 : decode cX5_setCareful 23 = .ok (.getfield 20, 3) := by decide +kernel
theorem dX5_setCareful_26 : decode cX5_setCareful 26 = .ok (.iload_n 1, 1) := by decide +kernel
theorem dX5_setCareful_27 : decode cX5_setCareful 27 = .ok (.baload, 1) := by decide +kernel
theorem dX5_setCareful_28 : decode cX5_setCareful 28 = .ok (.istore_n 3, 1) := by decide +kernel
theorem dX5_setCareful_29 : decode cX5_setCareful 29 = .ok (.aload_n 0, 1) := by decide +kernel
theorem dX5_setCareful_30 : decode cX5_setCareful 30 = .ok (.getfield 20, 3) := by decide +kernel
theorem dX5_setCareful_33 : decode cX5_setCareful 33 = .ok (.iload_n 1, 1) := by decide +kernel
theorem dX5_setCareful_34 : decode cX5_setCareful 34 = .ok (.iload_n 2, 1) := by decide +kernel
theorem dX5_setCareful_35 : decode cX5_setCareful 35 = .ok (.bastore, 1) := by decide +kernel
theorem dX5_setCareful_36 : decode cX5_setCareful 36 = .ok (.iload_n 3, 1) := by decide +kernel
theorem dX5_setCareful_37 : decode cX5_setCareful 37 = .ok (.iload_n 2, 1) := by decide +kernel
theorem dX5_setCareful_38 : decode cX5_setCareful 38 = .ok (.if_icmp .eq 7, 3) := by decide +kernel
theorem dX5_setCareful_41 : decode cX5_setCareful 41 = .ok (.iconst 1, 1) := by decide +kernel
theorem dX5_setCareful_42 : decode cX5_setCareful 42 = .ok (.goto 4, 3) := by decide +kernel
theorem dX5_setCareful_45 : decode cX5_setCareful 45 = .ok (.iconst 0, 1) := by decide +kernel
theorem dX5_setCareful_46 : decode cX5_setCareful 46 = .ok (.ireturn, 1) := by decide +kernel
theorem dX5_spoil_0 : decode cX5_spoil 0 = .ok (.aload_n 0, 1) := by decide +kernel
theorem dX5_spoil_1 : decode cX5_spoil 1 = .ok (.aload_n 0, 1) := by decide +kernel
theorem dX5_spoil_2 : decode cX5_spoil 2 = .ok (.iload_n 1, 1) := by decide +kernel
theorem dX5_spoil_3 : decode cX5_spoil 3 = .ok (.invokevirtual 79, 3) := by decide +kernel
theorem dX5_spoil_6 : decode cX5_spoil 6 = .ok (.ifCond .eq 14, 3) := by decide +kernel
theorem dX5_spoil_9 : decode cX5_spoil 9 = .ok (.iload_n 2, 1) := by decide +kernel
theorem dX5_spoil_10 : decode cX5_spoil 10 = .ok (.invokestatic 86, 3) := by decide +kernel
theorem dX5_spoil_13 : decode cX5_spoil 13 = .ok (.ifCond .eq 7, 3) := by decide +kernel
theorem dX5_spoil_16 : decode cX5_spoil 16 = .ok (.iconst 0, 1) := by decide +kernel
theorem dX5_spoil_17 : decode cX5_spoil 17 = .ok (.goto 4, 3) := by decide +kernel
theorem dX5_spoil_20 : decode cX5_spoil 20 = .ok (.iconst 1, 1) := by decide +kernel
theorem dX5_spoil_21 : decode cX5_spoil 21 = .ok (.invokevirtual 75, 3) := by decide +kernel
theorem dX5_spoil_24 : decode cX5_spoil 24 = .ok (.ifCond .ne 5, 3) := by decide +kernel
theorem dX5_spoil_27 : decode cX5_spoil 27 = .ok (.iconst 0, 1) := by decide +kernel
theorem dX5_spoil_28 : decode cX5_spoil 28 = .ok (.ireturn, 1) := by decide +kernel
theorem dX5_spoil_29 : decode cX5_spoil 29 = .ok (.aload_n 0, 1) := by decide +kernel
theorem dX5_spoil_30 : decode cX5_spoil 30 = .ok (.getfield 26, 3) := by decide +kernel
theorem dX5_spoil_33 : decode cX5_spoil 33 = .ok (.iload_n 1, 1) := by decide +kernel
theorem dX5_spoil_34 : decode cX5_spoil 34 = .ok (.iaload, 1) := by decide +kernel
theorem dX5_spoil_35 : decode cX5_spoil 35 = .ok (.iload_n 2, 1) := by decide +kernel
theorem dX5_spoil_36 : decode cX5_spoil 36 = .ok (.invokestatic 89, 3) := by decide +kernel
theorem dX5_spoil_39 : decode cX5_spoil 39 = .ok (.istore 4, 2) := by decide +kernel
theorem dX5_spoil_41 : decode cX5_spoil 41 = .ok (.aload_n 0, 1) := by decide +kernel
theorem dX5_spoil_42 : decode cX5_spoil 42 = .ok (.getfield 26, 3) := by decide +kernel
theorem dX5_spoil_45 : decode cX5_spoil 45 = .ok (.iload_n 1, 1) := by decide +kernel
theorem dX5_spoil_46 : decode cX5_spoil 46 = .ok (.aload_n 0, 1) := by decide +kernel
theorem dX5_spoil_47 : decode cX5_spoil 47 = .ok (.getfield 26, 3) := by decide +kernel
theorem dX5_spoil_50 : decode cX5_spoil 50 = .ok (.iload_n 1, 1) := by decide +kernel
theorem dX5_spoil_51 : decode cX5_spoil 51 = .ok (.iaload, 1) := by decide +kernel
theorem dX5_spoil_52 : decode cX5_spoil 52 = .ok (.iconst 1, 1) := by decide +kernel
theorem dX5_spoil_53 : decode cX5_spoil 53 = .ok (.iload_n 2, 1) := by decide +kernel
theorem dX5_spoil_54 : decode cX5_spoil 54 = .ok (.ishl, 1) := by decide +kernel
theorem dX5_spoil_55 : decode cX5_spoil 55 = .ok (.iconst (-1), 1) := by decide +kernel
theorem dX5_spoil_56 : decode cX5_spoil 56 = .ok (.ixor, 1) := by decide +kernel
theorem dX5_spoil_57 : decode cX5_spoil 57 = .ok (.iand, 1) := by decide +kernel
theorem dX5_spoil_58 : decode cX5_spoil 58 = .ok (.iload_n 3, 1) := by decide +kernel
theorem dX5_spoil_59 : decode cX5_spoil 59 = .ok (.ifCond .eq 9, 3) := by decide +kernel
theorem dX5_spoil_62 : decode cX5_spoil 62 = .ok (.iconst 1, 1) := by decide +kernel
theorem dX5_spoil_63 : decode cX5_spoil 63 = .ok (.iload_n 2, 1) := by decide +kernel
theorem dX5_spoil_64 : decode cX5_spoil 64 = .ok (.ishl, 1) := by decide +kernel
theorem dX5_spoil_65 : decode cX5_spoil 65 = .ok (.goto 4, 3) := by decide +kernel
theorem dX5_spoil_68 : decode cX5_spoil 68 = .ok (.iconst 0, 1) := by decide +kernel
theorem dX5_spoil_69 : decode cX5_spoil 69 = .ok (.ior, 1) := by decide +kernel
theorem dX5_spoil_70 : decode cX5_spoil 70 = .ok (.iastore, 1) := by decide +kernel
theorem dX5_spoil_71 : decode cX5_spoil 71 = .ok (.iload 4, 2) := by decide +kernel
theorem dX5_spoil_73 : decode cX5_spoil 73 = .ok (.iload_n 3, 1) := by decide +kernel
theorem dX5_spoil_74 : decode cX5_spoil 74 = .ok (.if_icmp .eq 7, 3) := by decide +kernel
theorem dX5_spoil_77 : decode cX5_spoil 77 = .ok (.iconst 1, 1) := by decide +kernel
theorem dX5_spoil_78 : decode cX5_spoil 78 = .ok (.goto 4, 3) := by decide +kernel
theorem dX5_spoil_81 : decode cX5_spoil 81 = .ok (.iconst 0, 1) := by decide +kernel
theorem dX5_spoil_82 : decode cX5_spoil 82 = .ok (.ireturn, 1) := by decide +kernel
theorem dX5_holdersOf_0 : decode cX5_holdersOf 0 = .ok (.iconst 0, 1) := by decide +kernel
theorem dX5_holdersOf_1 : decode cX5_holdersOf 1 = .ok (.istore_n 2, 1) := by decide +kernel
theorem dX5_holdersOf_2 : decode cX5_holdersOf 2 = .ok (.iconst 0, 1) := by decide +kernel
theorem dX5_holdersOf_3 : decode cX5_holdersOf 3 = .ok (.istore_n 3, 1) := by decide +kernel
theorem dX5_holdersOf_4 : decode cX5_holdersOf 4 = .ok (.iload_n 3, 1) := by decide +kernel
theorem dX5_holdersOf_5 : decode cX5_holdersOf 5 = .ok (.aload_n 0, 1) := by decide +kernel
theorem dX5_holdersOf_6 : decode cX5_holdersOf 6 = .ok (.getfield 72, 3) := by decide +kernel
theorem dX5_holdersOf_9 : decode cX5_holdersOf 9 = .ok (.if_icmp .ge 39, 3) := by decide +kernel
theorem dX5_holdersOf_12 : decode cX5_holdersOf 12 = .ok (.iload_n 2, 1) := by decide +kernel
theorem dX5_holdersOf_13 : decode cX5_holdersOf 13 = .ok (.aload_n 0, 1) := by decide +kernel
theorem dX5_holdersOf_14 : decode cX5_holdersOf 14 = .ok (.getfield 13, 3) := by decide +kernel
theorem dX5_holdersOf_17 : decode cX5_holdersOf 17 = .ok (.iload_n 3, 1) := by decide +kernel
theorem dX5_holdersOf_18 : decode cX5_holdersOf 18 = .ok (.baload, 1) := by decide +kernel
theorem dX5_holdersOf_19 : decode cX5_holdersOf 19 = .ok (.ifCond .eq 20, 3) := by decide +kernel
theorem dX5_holdersOf_22 : decode cX5_holdersOf 22 = .ok (.aload_n 0, 1) := by decide +kernel
theorem dX5_holdersOf_23 : decode cX5_holdersOf 23 = .ok (.getfield 17, 3) := by decide +kernel
theorem dX5_holdersOf_26 : decode cX5_holdersOf 26 = .ok (.iload_n 3, 1) := by decide +kernel
theorem dX5_holdersOf_27 : decode cX5_holdersOf 27 = .ok (.iaload, 1) := by decide +kernel
theorem dX5_holdersOf_28 : decode cX5_holdersOf 28 = .ok (.iload_n 1, 1) := by decide +kernel
theorem dX5_holdersOf_29 : decode cX5_holdersOf 29 = .ok (.invokestatic 89, 3) := by decide +kernel
theorem dX5_holdersOf_32 : decode cX5_holdersOf 32 = .ok (.ifCond .eq 7, 3) := by decide +kernel
theorem dX5_holdersOf_35 : decode cX5_holdersOf 35 = .ok (.iconst 1, 1) := by decide +kernel
theorem dX5_holdersOf_36 : decode cX5_holdersOf 36 = .ok (.goto 4, 3) := by decide +kernel
theorem dX5_holdersOf_39 : decode cX5_holdersOf 39 = .ok (.iconst 0, 1) := by decide +kernel
theorem dX5_holdersOf_40 : decode cX5_holdersOf 40 = .ok (.iadd, 1) := by decide +kernel
theorem dX5_holdersOf_41 : decode cX5_holdersOf 41 = .ok (.istore_n 2, 1) := by decide +kernel
theorem dX5_holdersOf_42 : decode cX5_holdersOf 42 = .ok (.iinc 3 1, 3) := by decide +kernel
theorem dX5_holdersOf_45 : decode cX5_holdersOf 45 = .ok (.goto (-41), 3) := by decide +kernel
theorem dX5_holdersOf_48 : decode cX5_holdersOf 48 = .ok (.iload_n 2, 1) := by decide +kernel
theorem dX5_holdersOf_49 : decode cX5_holdersOf 49 = .ok (.ireturn, 1) := by decide +kernel
theorem dX5_shownBy_0 : decode cX5_shownBy 0 = .ok (.iload_n 1, 1) := by decide +kernel
theorem dX5_shownBy_1 : decode cX5_shownBy 1 = .ok (.iload_n 2, 1) := by decide +kernel
theorem dX5_shownBy_2 : decode cX5_shownBy 2 = .ok (.if_icmp .eq 12, 3) := by decide +kernel
theorem dX5_shownBy_5 : decode cX5_shownBy 5 = .ok (.aload_n 0, 1) := by decide +kernel
theorem dX5_shownBy_6 : decode cX5_shownBy 6 = .ok (.getfield 20, 3) := by decide +kernel
theorem dX5_shownBy_9 : decode cX5_shownBy 9 = .ok (.iload_n 1, 1) := by decide +kernel
theorem dX5_shownBy_10 : decode cX5_shownBy 10 = .ok (.baload, 1) := by decide +kernel
theorem dX5_shownBy_11 : decode cX5_shownBy 11 = .ok (.ifCond .ne 19, 3) := by decide +kernel
theorem dX5_shownBy_14 : decode cX5_shownBy 14 = .ok (.iload_n 1, 1) := by decide +kernel
theorem dX5_shownBy_15 : decode cX5_shownBy 15 = .ok (.iload_n 2, 1) := by decide +kernel
theorem dX5_shownBy_16 : decode cX5_shownBy 16 = .ok (.if_icmp .ne 7, 3) := by decide +kernel
theorem dX5_shownBy_19 : decode cX5_shownBy 19 = .ok (.iconst 0, 1) := by decide +kernel
theorem dX5_shownBy_20 : decode cX5_shownBy 20 = .ok (.goto 9, 3) := by decide +kernel
theorem dX5_shownBy_23 : decode cX5_shownBy 23 = .ok (.aload_n 0, 1) := by decide +kernel
theorem dX5_shownBy_24 : decode cX5_shownBy 24 = .ok (.getfield 17, 3) := by decide +kernel
theorem dX5_shownBy_27 : decode cX5_shownBy 27 = .ok (.iload_n 1, 1) := by decide +kernel
theorem dX5_shownBy_28 : decode cX5_shownBy 28 = .ok (.iaload, 1) := by decide +kernel
theorem dX5_shownBy_29 : decode cX5_shownBy 29 = .ok (.ireturn, 1) := by decide +kernel
theorem dX5_shownBy_30 : decode cX5_shownBy 30 = .ok (.iconst (-1), 1) := by decide +kernel
theorem dX5_shownBy_31 : decode cX5_shownBy 31 = .ok (.istore_n 3, 1) := by decide +kernel
theorem dX5_shownBy_32 : decode cX5_shownBy 32 = .ok (.bipush 11, 2) := by decide +kernel
theorem dX5_shownBy_34 : decode cX5_shownBy 34 = .ok (.istore 4, 2) := by decide +kernel
theorem dX5_shownBy_36 : decode cX5_shownBy 36 = .ok (.iload 4, 2) := by decide +kernel
theorem dX5_shownBy_38 : decode cX5_shownBy 38 = .ok (.ifCond .lt 84, 3) := by decide +kernel
theorem dX5_shownBy_41 : decode cX5_shownBy 41 = .ok (.iload_n 2, 1) := by decide +kernel
theorem dX5_shownBy_42 : decode cX5_shownBy 42 = .ok (.iload 4, 2) := by decide +kernel
theorem dX5_shownBy_44 : decode cX5_shownBy 44 = .ok (.iadd, 1) := by decide +kernel
theorem dX5_shownBy_45 : decode cX5_shownBy 45 = .ok (.bipush 12, 2) := by decide +kernel
theorem dX5_shownBy_47 : decode cX5_shownBy 47 = .ok (.irem, 1) := by decide +kernel
theorem dX5_shownBy_48 : decode cX5_shownBy 48 = .ok (.istore 5, 2) := by decide +kernel
theorem dX5_shownBy_50 : decode cX5_shownBy 50 = .ok (.aload_n 0, 1) := by decide +kernel
theorem dX5_shownBy_51 : decode cX5_shownBy 51 = .ok (.getfield 17, 3) := by decide +kernel
theorem dX5_shownBy_54 : decode cX5_shownBy 54 = .ok (.iload_n 1, 1) := by decide +kernel
theorem dX5_shownBy_55 : decode cX5_shownBy 55 = .ok (.iaload, 1) := by decide +kernel
theorem dX5_shownBy_56 : decode cX5_shownBy 56 = .ok (.iload 5, 2) := by decide +kernel
theorem dX5_shownBy_58 : decode cX5_shownBy 58 = .ok (.invokestatic 89, 3) := by decide +kernel
theorem dX5_shownBy_61 : decode cX5_shownBy 61 = .ok (.ifCond .eq 21, 3) := by decide +kernel
theorem dX5_shownBy_64 : decode cX5_shownBy 64 = .ok (.aload_n 0, 1) := by decide +kernel
theorem dX5_shownBy_65 : decode cX5_shownBy 65 = .ok (.getfield 17, 3) := by decide +kernel
theorem dX5_shownBy_68 : decode cX5_shownBy 68 = .ok (.iload_n 2, 1) := by decide +kernel
theorem dX5_shownBy_69 : decode cX5_shownBy 69 = .ok (.iaload, 1) := by decide +kernel
theorem dX5_shownBy_70 : decode cX5_shownBy 70 = .ok (.iload 5, 2) := by decide +kernel
theorem dX5_shownBy_72 : decode cX5_shownBy 72 = .ok (.invokestatic 89, 3) := by decide +kernel
theorem dX5_shownBy_75 : decode cX5_shownBy 75 = .ok (.ifCond .ne 7, 3) := by decide +kernel
theorem dX5_shownBy_78 : decode cX5_shownBy 78 = .ok (.iconst 1, 1) := by decide +kernel
theorem dX5_shownBy_79 : decode cX5_shownBy 79 = .ok (.goto 4, 3) := by decide +kernel
theorem dX5_shownBy_82 : decode cX5_shownBy 82 = .ok (.iconst 0, 1) := by decide +kernel
theorem dX5_shownBy_83 : decode cX5_shownBy 83 = .ok (.istore 6, 2) := by decide +kernel
theorem dX5_shownBy_85 : decode cX5_shownBy 85 = .ok (.iload 6, 2) := by decide +kernel
theorem dX5_shownBy_87 : decode cX5_shownBy 87 = .ok (.ifCond .eq 27, 3) := by decide +kernel
theorem dX5_shownBy_90 : decode cX5_shownBy 90 = .ok (.iload_n 3, 1) := by decide +kernel
theorem dX5_shownBy_91 : decode cX5_shownBy 91 = .ok (.iconst (-1), 1) := by decide +kernel
theorem dX5_shownBy_92 : decode cX5_shownBy 92 = .ok (.if_icmp .eq 17, 3) := by decide +kernel
theorem dX5_shownBy_95 : decode cX5_shownBy 95 = .ok (.aload_n 0, 1) := by decide +kernel
theorem dX5_shownBy_96 : decode cX5_shownBy 96 = .ok (.iload 5, 2) := by decide +kernel
theorem dX5_shownBy_98 : decode cX5_shownBy 98 = .ok (.invokevirtual 93, 3) := by decide +kernel
theorem dX5_shownBy_101 : decode cX5_shownBy 101 = .ok (.aload_n 0, 1) := by decide +kernel
theorem dX5_shownBy_102 : decode cX5_shownBy 102 = .ok (.iload_n 3, 1) := by decide +kernel
theorem dX5_shownBy_103 : decode cX5_shownBy 103 = .ok (.invokevirtual 93, 3) := by decide +kernel
theorem dX5_shownBy_106 : decode cX5_shownBy 106 = .ok (.if_icmp .gt 8, 3) := by decide +kernel
theorem dX5_shownBy_109 : decode cX5_shownBy 109 = .ok (.iload 5, 2) := by decide +kernel
theorem dX5_shownBy_111 : decode cX5_shownBy 111 = .ok (.goto 4, 3) := by decide +kernel
theorem dX5_shownBy_114 : decode cX5_shownBy 114 = .ok (.iload_n 3, 1) := by decide +kernel
theorem dX5_shownBy_115 : decode cX5_shownBy 115 = .ok (.istore_n 3, 1) := by decide +kernel
theorem dX5_shownBy_116 : decode cX5_shownBy 116 = .ok (.iinc 4 (-1), 3) := by decide +kernel
theorem dX5_shownBy_119 : decode cX5_shownBy 119 = .ok (.goto (-83), 3) := by decide +kernel
theorem dX5_shownBy_122 : decode cX5_shownBy 122 = .ok (.iload_n 3, 1) := by decide +kernel
theorem dX5_shownBy_123 : decode cX5_shownBy 123 = .ok (.iconst (-1), 1) := by decide +kernel
theorem dX5_shownBy_124 : decode cX5_shownBy 124 = .ok (.if_icmp .ne 7, 3) := by decide +kernel
theorem dX5_shownBy_127 : decode cX5_shownBy 127 = .ok (.iconst 0, 1) := by decide +kernel
theorem dX5_shownBy_128 : decode cX5_shownBy 128 = .ok (.goto 6, 3) := by decide +kernel
theorem dX5_shownBy_131 : decode cX5_shownBy 131 = .ok (.iconst 1, 1) := by decide +kernel
theorem dX5_shownBy_132 : decode cX5_shownBy 132 = .ok (.iload_n 3, 1) := by decide +kernel
theorem dX5_shownBy_133 : decode cX5_shownBy 133 = .ok (.ishl, 1) := by decide +kernel
theorem dX5_shownBy_134 : decode cX5_shownBy 134 = .ok (.ireturn, 1) := by decide +kernel
theorem dX5_lackedBy_0 : decode cX5_lackedBy 0 = .ok (.iconst 0, 1) := by decide +kernel
theorem dX5_lackedBy_1 : decode cX5_lackedBy 1 = .ok (.istore_n 2, 1) := by decide +kernel
theorem dX5_lackedBy_2 : decode cX5_lackedBy 2 = .ok (.iconst 0, 1) := by decide +kernel
theorem dX5_lackedBy_3 : decode cX5_lackedBy 3 = .ok (.istore_n 3, 1) := by decide +kernel
theorem dX5_lackedBy_4 : decode cX5_lackedBy 4 = .ok (.iload_n 3, 1) := by decide +kernel
theorem dX5_lackedBy_5 : decode cX5_lackedBy 5 = .ok (.bipush 12, 2) := by decide +kernel
theorem dX5_lackedBy_7 : decode cX5_lackedBy 7 = .ok (.if_icmp .ge 41, 3) := by decide +kernel
theorem dX5_lackedBy_10 : decode cX5_lackedBy 10 = .ok (.iload_n 2, 1) := by decide +kernel
theorem dX5_lackedBy_11 : decode cX5_lackedBy 11 = .ok (.aload_n 0, 1) := by decide +kernel
theorem dX5_lackedBy_12 : decode cX5_lackedBy 12 = .ok (.getfield 7, 3) := by decide +kernel
theorem dX5_lackedBy_15 : decode cX5_lackedBy 15 = .ok (.iload_n 3, 1) := by decide +kernel
theorem dX5_lackedBy_16 : decode cX5_lackedBy 16 = .ok (.iaload, 1) := by decide +kernel
theorem dX5_lackedBy_17 : decode cX5_lackedBy 17 = .ok (.ifCond .le 22, 3) := by decide +kernel
theorem dX5_lackedBy_20 : decode cX5_lackedBy 20 = .ok (.aload_n 0, 1) := by decide +kernel
theorem dX5_lackedBy_21 : decode cX5_lackedBy 21 = .ok (.getfield 17, 3) := by decide +kernel
theorem dX5_lackedBy_24 : decode cX5_lackedBy 24 = .ok (.iload_n 1, 1) := by decide +kernel
theorem dX5_lackedBy_25 : decode cX5_lackedBy 25 = .ok (.iaload, 1) := by decide +kernel
theorem dX5_lackedBy_26 : decode cX5_lackedBy 26 = .ok (.iload_n 3, 1) := by decide +kernel
theorem dX5_lackedBy_27 : decode cX5_lackedBy 27 = .ok (.invokestatic 89, 3) := by decide +kernel
theorem dX5_lackedBy_30 : decode cX5_lackedBy 30 = .ok (.ifCond .ne 9, 3) := by decide +kernel
theorem dX5_lackedBy_33 : decode cX5_lackedBy 33 = .ok (.iconst 1, 1) := by decide +kernel
theorem dX5_lackedBy_34 : decode cX5_lackedBy 34 = .ok (.iload_n 3, 1) := by decide +kernel
theorem dX5_lackedBy_35 : decode cX5_lackedBy 35 = .ok (.ishl, 1) := by decide +kernel
theorem dX5_lackedBy_36 : decode cX5_lackedBy 36 = .ok (.goto 4, 3) := by decide +kernel
theorem dX5_lackedBy_39 : decode cX5_lackedBy 39 = .ok (.iconst 0, 1) := by decide +kernel
theorem dX5_lackedBy_40 : decode cX5_lackedBy 40 = .ok (.ior, 1) := by decide +kernel
theorem dX5_lackedBy_41 : decode cX5_lackedBy 41 = .ok (.istore_n 2, 1) := by decide +kernel
theorem dX5_lackedBy_42 : decode cX5_lackedBy 42 = .ok (.iinc 3 1, 3) := by decide +kernel
theorem dX5_lackedBy_45 : decode cX5_lackedBy 45 = .ok (.goto (-41), 3) := by decide +kernel
theorem dX5_lackedBy_48 : decode cX5_lackedBy 48 = .ok (.iload_n 2, 1) := by decide +kernel
theorem dX5_lackedBy_49 : decode cX5_lackedBy 49 = .ok (.ireturn, 1) := by decide +kernel
theorem dX5_wants_0 : decode cX5_wants 0 = .ok (.iload_n 1, 1) := by decide +kernel
theorem dX5_wants_1 : decode cX5_wants 1 = .ok (.iload_n 2, 1) := by decide +kernel
theorem dX5_wants_2 : decode cX5_wants 2 = .ok (.if_icmp .eq 25, 3) := by decide +kernel
theorem dX5_wants_5 : decode cX5_wants 5 = .ok (.aload_n 0, 1) := by decide +kernel
theorem dX5_wants_6 : decode cX5_wants 6 = .ok (.getfield 13, 3) := by decide +kernel
theorem dX5_wants_9 : decode cX5_wants 9 = .ok (.iload_n 1, 1) := by decide +kernel
theorem dX5_wants_10 : decode cX5_wants 10 = .ok (.baload, 1) := by decide +kernel
theorem dX5_wants_11 : decode cX5_wants 11 = .ok (.ifCond .eq 16, 3) := by decide +kernel
theorem dX5_wants_14 : decode cX5_wants 14 = .ok (.aload_n 0, 1) := by decide +kernel
theorem dX5_wants_15 : decode cX5_wants 15 = .ok (.getfield 13, 3) := by decide +kernel
theorem dX5_wants_18 : decode cX5_wants 18 = .ok (.iload_n 2, 1) := by decide +kernel
theorem dX5_wants_19 : decode cX5_wants 19 = .ok (.baload, 1) := by decide +kernel
theorem dX5_wants_20 : decode cX5_wants 20 = .ok (.ifCond .eq 7, 3) := by decide +kernel
theorem dX5_wants_23 : decode cX5_wants 23 = .ok (.iconst 1, 1) := by decide +kernel
theorem dX5_wants_24 : decode cX5_wants 24 = .ok (.goto 4, 3) := by decide +kernel
theorem dX5_wants_27 : decode cX5_wants 27 = .ok (.iconst 0, 1) := by decide +kernel
theorem dX5_wants_28 : decode cX5_wants 28 = .ok (.istore_n 3, 1) := by decide +kernel
theorem dX5_wants_29 : decode cX5_wants 29 = .ok (.iload_n 3, 1) := by decide +kernel
theorem dX5_wants_30 : decode cX5_wants 30 = .ok (.ifCond .eq 35, 3) := by decide +kernel
theorem dX5_wants_33 : decode cX5_wants 33 = .ok (.aload_n 0, 1) := by decide +kernel
theorem dX5_wants_34 : decode cX5_wants 34 = .ok (.getfield 50, 3) := by decide +kernel
theorem dX5_wants_37 : decode cX5_wants 37 = .ok (.iload_n 1, 1) := by decide +kernel
theorem dX5_wants_38 : decode cX5_wants 38 = .ok (.iload_n 2, 1) := by decide +kernel
theorem dX5_wants_39 : decode cX5_wants 39 = .ok (.invokestatic 96, 3) := by decide +kernel
theorem dX5_wants_42 : decode cX5_wants 42 = .ok (.baload, 1) := by decide +kernel
theorem dX5_wants_43 : decode cX5_wants 43 = .ok (.ifCond .ne 22, 3) := by decide +kernel
theorem dX5_wants_46 : decode cX5_wants 46 = .ok (.aload_n 0, 1) := by decide +kernel
theorem dX5_wants_47 : decode cX5_wants 47 = .ok (.iload_n 2, 1) := by decide +kernel
theorem dX5_wants_48 : decode cX5_wants 48 = .ok (.iload_n 1, 1) := by decide +kernel
theorem dX5_wants_49 : decode cX5_wants 49 = .ok (.invokevirtual 100, 3) := by decide +kernel
theorem dX5_wants_52 : decode cX5_wants 52 = .ok (.aload_n 0, 1) := by decide +kernel
theorem dX5_wants_53 : decode cX5_wants 53 = .ok (.iload_n 1, 1) := by decide +kernel
theorem dX5_wants_54 : decode cX5_wants 54 = .ok (.invokevirtual 103, 3) := by decide +kernel
theorem dX5_wants_57 : decode cX5_wants 57 = .ok (.iand, 1) := by decide +kernel
theorem dX5_wants_58 : decode cX5_wants 58 = .ok (.ifCond .eq 7, 3) := by decide +kernel
theorem dX5_wants_61 : decode cX5_wants 61 = .ok (.iconst 1, 1) := by decide +kernel
theorem dX5_wants_62 : decode cX5_wants 62 = .ok (.goto 4, 3) := by decide +kernel
theorem dX5_wants_65 : decode cX5_wants 65 = .ok (.iconst 0, 1) := by decide +kernel
theorem dX5_wants_66 : decode cX5_wants 66 = .ok (.ireturn, 1) := by decide +kernel
theorem dX5_choiceOf_0 : decode cX5_choiceOf 0 = .ok (.iconst 0, 1) := by decide +kernel
theorem dX5_choiceOf_1 : decode cX5_choiceOf 1 = .ok (.istore_n 2, 1) := by decide +kernel
theorem dX5_choiceOf_2 : decode cX5_choiceOf 2 = .ok (.iconst 0, 1) := by decide +kernel
theorem dX5_choiceOf_3 : decode cX5_choiceOf 3 = .ok (.istore_n 3, 1) := by decide +kernel
theorem dX5_choiceOf_4 : decode cX5_choiceOf 4 = .ok (.iload_n 3, 1) := by decide +kernel
theorem dX5_choiceOf_5 : decode cX5_choiceOf 5 = .ok (.aload_n 0, 1) := by decide +kernel
end
section
theorem dX5_choiceOf_6 : decode cX5_choiceOf 6 = .ok (.getfield 72, 3) := by decide +kernel
theorem dX5_choiceOf_9 : decode cX5_choiceOf 9 = .ok (.if_icmp .ge 28, 3) := by decide +kernel
theorem dX5_choiceOf_12 : decode cX5_choiceOf 12 = .ok (.iload_n 2, 1) := by decide +kernel
theorem dX5_choiceOf_13 : decode cX5_choiceOf 13 = .ok (.aload_n 0, 1) := by decide +kernel
theorem dX5_choiceOf_14 : decode cX5_choiceOf 14 = .ok (.iload_n 3, 1) := by decide +kernel
theorem dX5_choiceOf_15 : decode cX5_choiceOf 15 = .ok (.iload_n 1, 1) := by decide +kernel
theorem dX5_choiceOf_16 : decode cX5_choiceOf 16 = .ok (.invokevirtual 106, 3) := by decide +kernel
theorem dX5_choiceOf_19 : decode cX5_choiceOf 19 = .ok (.ifCond .eq 9, 3) := by decide +kernel
theorem dX5_choiceOf_22 : decode cX5_choiceOf 22 = .ok (.iconst 1, 1) := by decide +kernel
theorem dX5_choiceOf_23 : decode cX5_choiceOf 23 = .ok (.iload_n 3, 1) := by decide +kernel
theorem dX5_choiceOf_24 : decode cX5_choiceOf 24 = .ok (.ishl, 1) := by decide +kernel
theorem dX5_choiceOf_25 : decode cX5_choiceOf 25 = .ok (.goto 4, 3) := by decide +kernel
theorem dX5_choiceOf_28 : decode cX5_choiceOf 28 = .ok (.iconst 0, 1) := by decide +kernel
theorem dX5_choiceOf_29 : decode cX5_choiceOf 29 = .ok (.ior, 1) := by decide +kernel
theorem dX5_choiceOf_30 : decode cX5_choiceOf 30 = .ok (.istore_n 2, 1) := by decide +kernel
theorem dX5_choiceOf_31 : decode cX5_choiceOf 31 = .ok (.iinc 3 1, 3) := by decide +kernel
theorem dX5_choiceOf_34 : decode cX5_choiceOf 34 = .ok (.goto (-30), 3) := by decide +kernel
theorem dX5_choiceOf_37 : decode cX5_choiceOf 37 = .ok (.iconst 0, 1) := by decide +kernel
theorem dX5_choiceOf_38 : decode cX5_choiceOf 38 = .ok (.istore_n 3, 1) := by decide +kernel
theorem dX5_choiceOf_39 : decode cX5_choiceOf 39 = .ok (.iconst 0, 1) := by decide +kernel
theorem dX5_choiceOf_40 : decode cX5_choiceOf 40 = .ok (.istore 4, 2) := by decide +kernel
theorem dX5_choiceOf_42 : decode cX5_choiceOf 42 = .ok (.iload 4, 2) := by decide +kernel
theorem dX5_choiceOf_44 : decode cX5_choiceOf 44 = .ok (.iconst 2, 1) := by decide +kernel
theorem dX5_choiceOf_45 : decode cX5_choiceOf 45 = .ok (.if_icmp .ge 117, 3) := by decide +kernel
theorem dX5_choiceOf_48 : decode cX5_choiceOf 48 = .ok (.iconst (-1), 1) := by decide +kernel
theorem dX5_choiceOf_49 : decode cX5_choiceOf 49 = .ok (.istore 5, 2) := by decide +kernel
theorem dX5_choiceOf_51 : decode cX5_choiceOf 51 = .ok (.iconst 0, 1) := by decide +kernel
theorem dX5_choiceOf_52 : decode cX5_choiceOf 52 = .ok (.istore 6, 2) := by decide +kernel
theorem dX5_choiceOf_54 : decode cX5_choiceOf 54 = .ok (.iload 6, 2) := by decide +kernel
theorem dX5_choiceOf_56 : decode cX5_choiceOf 56 = .ok (.aload_n 0, 1) := by decide +kernel
theorem dX5_choiceOf_57 : decode cX5_choiceOf 57 = .ok (.getfield 72, 3) := by decide +kernel
theorem dX5_choiceOf_60 : decode cX5_choiceOf 60 = .ok (.if_icmp .ge 79, 3) := by decide +kernel
theorem dX5_choiceOf_63 : decode cX5_choiceOf 63 = .ok (.iload_n 2, 1) := by decide +kernel
theorem dX5_choiceOf_64 : decode cX5_choiceOf 64 = .ok (.iload 6, 2) := by decide +kernel
theorem dX5_choiceOf_66 : decode cX5_choiceOf 66 = .ok (.invokestatic 89, 3) := by decide +kernel
theorem dX5_choiceOf_69 : decode cX5_choiceOf 69 = .ok (.ifCond .eq 16, 3) := by decide +kernel
theorem dX5_choiceOf_72 : decode cX5_choiceOf 72 = .ok (.iload_n 3, 1) := by decide +kernel
theorem dX5_choiceOf_73 : decode cX5_choiceOf 73 = .ok (.iload 6, 2) := by decide +kernel
theorem dX5_choiceOf_75 : decode cX5_choiceOf 75 = .ok (.invokestatic 89, 3) := by decide +kernel
theorem dX5_choiceOf_78 : decode cX5_choiceOf 78 = .ok (.ifCond .ne 7, 3) := by decide +kernel
theorem dX5_choiceOf_81 : decode cX5_choiceOf 81 = .ok (.iconst 1, 1) := by decide +kernel
theorem dX5_choiceOf_82 : decode cX5_choiceOf 82 = .ok (.goto 4, 3) := by decide +kernel
theorem dX5_choiceOf_85 : decode cX5_choiceOf 85 = .ok (.iconst 0, 1) := by decide +kernel
theorem dX5_choiceOf_86 : decode cX5_choiceOf 86 = .ok (.istore 7, 2) := by decide +kernel
theorem dX5_choiceOf_88 : decode cX5_choiceOf 88 = .ok (.iload 7, 2) := by decide +kernel
theorem dX5_choiceOf_90 : decode cX5_choiceOf 90 = .ok (.ifCond .eq 39, 3) := by decide +kernel
theorem dX5_choiceOf_93 : decode cX5_choiceOf 93 = .ok (.iload 5, 2) := by decide +kernel
theorem dX5_choiceOf_95 : decode cX5_choiceOf 95 = .ok (.iconst (-1), 1) := by decide +kernel
theorem dX5_choiceOf_96 : decode cX5_choiceOf 96 = .ok (.if_icmp .eq 28, 3) := by decide +kernel
theorem dX5_choiceOf_99 : decode cX5_choiceOf 99 = .ok (.aload_n 0, 1) := by decide +kernel
theorem dX5_choiceOf_100 : decode cX5_choiceOf 100 = .ok (.getfield 44, 3) := by decide +kernel
theorem dX5_choiceOf_103 : decode cX5_choiceOf 103 = .ok (.iload_n 1, 1) := by decide +kernel
theorem dX5_choiceOf_104 : decode cX5_choiceOf 104 = .ok (.iload 6, 2) := by decide +kernel
theorem dX5_choiceOf_106 : decode cX5_choiceOf 106 = .ok (.invokestatic 96, 3) := by decide +kernel
theorem dX5_choiceOf_109 : decode cX5_choiceOf 109 = .ok (.iaload, 1) := by decide +kernel
theorem dX5_choiceOf_110 : decode cX5_choiceOf 110 = .ok (.aload_n 0, 1) := by decide +kernel
theorem dX5_choiceOf_111 : decode cX5_choiceOf 111 = .ok (.getfield 44, 3) := by decide +kernel
theorem dX5_choiceOf_114 : decode cX5_choiceOf 114 = .ok (.iload_n 1, 1) := by decide +kernel
theorem dX5_choiceOf_115 : decode cX5_choiceOf 115 = .ok (.iload 5, 2) := by decide +kernel
theorem dX5_choiceOf_117 : decode cX5_choiceOf 117 = .ok (.invokestatic 96, 3) := by decide +kernel
theorem dX5_choiceOf_120 : decode cX5_choiceOf 120 = .ok (.iaload, 1) := by decide +kernel
theorem dX5_choiceOf_121 : decode cX5_choiceOf 121 = .ok (.if_icmp .le 8, 3) := by decide +kernel
theorem dX5_choiceOf_124 : decode cX5_choiceOf 124 = .ok (.iload 6, 2) := by decide +kernel
theorem dX5_choiceOf_126 : decode cX5_choiceOf 126 = .ok (.goto 5, 3) := by decide +kernel
theorem dX5_choiceOf_129 : decode cX5_choiceOf 129 = .ok (.iload 5, 2) := by decide +kernel
theorem dX5_choiceOf_131 : decode cX5_choiceOf 131 = .ok (.istore 5, 2) := by decide +kernel
theorem dX5_choiceOf_133 : decode cX5_choiceOf 133 = .ok (.iinc 6 1, 3) := by decide +kernel
theorem dX5_choiceOf_136 : decode cX5_choiceOf 136 = .ok (.goto (-82), 3) := by decide +kernel
theorem dX5_choiceOf_139 : decode cX5_choiceOf 139 = .ok (.iload_n 3, 1) := by decide +kernel
theorem dX5_choiceOf_140 : decode cX5_choiceOf 140 = .ok (.iload 5, 2) := by decide +kernel
theorem dX5_choiceOf_142 : decode cX5_choiceOf 142 = .ok (.iconst (-1), 1) := by decide +kernel
theorem dX5_choiceOf_143 : decode cX5_choiceOf 143 = .ok (.if_icmp .ne 7, 3) := by decide +kernel
theorem dX5_choiceOf_146 : decode cX5_choiceOf 146 = .ok (.iconst 0, 1) := by decide +kernel
theorem dX5_choiceOf_147 : decode cX5_choiceOf 147 = .ok (.goto 7, 3) := by decide +kernel
theorem dX5_choiceOf_150 : decode cX5_choiceOf 150 = .ok (.iconst 1, 1) := by decide +kernel
theorem dX5_choiceOf_151 : decode cX5_choiceOf 151 = .ok (.iload 5, 2) := by decide +kernel
theorem dX5_choiceOf_153 : decode cX5_choiceOf 153 = .ok (.ishl, 1) := by decide +kernel
theorem dX5_choiceOf_154 : decode cX5_choiceOf 154 = .ok (.ior, 1) := by decide +kernel
theorem dX5_choiceOf_155 : decode cX5_choiceOf 155 = .ok (.istore_n 3, 1) := by decide +kernel
theorem dX5_choiceOf_156 : decode cX5_choiceOf 156 = .ok (.iinc 4 1, 3) := by decide +kernel
theorem dX5_choiceOf_159 : decode cX5_choiceOf 159 = .ok (.goto (-117), 3) := by decide +kernel
theorem dX5_choiceOf_162 : decode cX5_choiceOf 162 = .ok (.iconst 0, 1) := by decide +kernel
theorem dX5_choiceOf_163 : decode cX5_choiceOf 163 = .ok (.istore 4, 2) := by decide +kernel
theorem dX5_choiceOf_165 : decode cX5_choiceOf 165 = .ok (.iload 4, 2) := by decide +kernel
theorem dX5_choiceOf_167 : decode cX5_choiceOf 167 = .ok (.bipush 6, 2) := by decide +kernel
theorem dX5_choiceOf_169 : decode cX5_choiceOf 169 = .ok (.if_icmp .ge 46, 3) := by decide +kernel
theorem dX5_choiceOf_172 : decode cX5_choiceOf 172 = .ok (.aload_n 0, 1) := by decide +kernel
theorem dX5_choiceOf_173 : decode cX5_choiceOf 173 = .ok (.getfield 109, 3) := by decide +kernel
theorem dX5_choiceOf_176 : decode cX5_choiceOf 176 = .ok (.iload 4, 2) := by decide +kernel
theorem dX5_choiceOf_178 : decode cX5_choiceOf 178 = .ok (.iadd, 1) := by decide +kernel
theorem dX5_choiceOf_179 : decode cX5_choiceOf 179 = .ok (.bipush 6, 2) := by decide +kernel
theorem dX5_choiceOf_181 : decode cX5_choiceOf 181 = .ok (.irem, 1) := by decide +kernel
theorem dX5_choiceOf_182 : decode cX5_choiceOf 182 = .ok (.istore 5, 2) := by decide +kernel
theorem dX5_choiceOf_184 : decode cX5_choiceOf 184 = .ok (.iload_n 2, 1) := by decide +kernel
theorem dX5_choiceOf_185 : decode cX5_choiceOf 185 = .ok (.iload 5, 2) := by decide +kernel
theorem dX5_choiceOf_187 : decode cX5_choiceOf 187 = .ok (.invokestatic 89, 3) := by decide +kernel
theorem dX5_choiceOf_190 : decode cX5_choiceOf 190 = .ok (.ifCond .eq 19, 3) := by decide +kernel
theorem dX5_choiceOf_193 : decode cX5_choiceOf 193 = .ok (.iload_n 3, 1) := by decide +kernel
theorem dX5_choiceOf_194 : decode cX5_choiceOf 194 = .ok (.iload 5, 2) := by decide +kernel
theorem dX5_choiceOf_196 : decode cX5_choiceOf 196 = .ok (.invokestatic 89, 3) := by decide +kernel
theorem dX5_choiceOf_199 : decode cX5_choiceOf 199 = .ok (.ifCond .ne 10, 3) := by decide +kernel
theorem dX5_choiceOf_202 : decode cX5_choiceOf 202 = .ok (.iload_n 3, 1) := by decide +kernel
theorem dX5_choiceOf_203 : decode cX5_choiceOf 203 = .ok (.iconst 1, 1) := by decide +kernel
theorem dX5_choiceOf_204 : decode cX5_choiceOf 204 = .ok (.iload 5, 2) := by decide +kernel
theorem dX5_choiceOf_206 : decode cX5_choiceOf 206 = .ok (.ishl, 1) := by decide +kernel
theorem dX5_choiceOf_207 : decode cX5_choiceOf 207 = .ok (.ior, 1) := by decide +kernel
theorem dX5_choiceOf_208 : decode cX5_choiceOf 208 = .ok (.ireturn, 1) := by decide +kernel
theorem dX5_choiceOf_209 : decode cX5_choiceOf 209 = .ok (.iinc 4 1, 3) := by decide +kernel
theorem dX5_choiceOf_212 : decode cX5_choiceOf 212 = .ok (.goto (-47), 3) := by decide +kernel
theorem dX5_choiceOf_215 : decode cX5_choiceOf 215 = .ok (.iload_n 3, 1) := by decide +kernel
theorem dX5_choiceOf_216 : decode cX5_choiceOf 216 = .ok (.ireturn, 1) := by decide +kernel
theorem dX5_looks_0 : decode cX5_looks 0 = .ok (.iconst 0, 1) := by decide +kernel
theorem dX5_looks_1 : decode cX5_looks 1 = .ok (.istore_n 1, 1) := by decide +kernel
theorem dX5_looks_2 : decode cX5_looks 2 = .ok (.iload_n 1, 1) := by decide +kernel
theorem dX5_looks_3 : decode cX5_looks 3 = .ok (.aload_n 0, 1) := by decide +kernel
theorem dX5_looks_4 : decode cX5_looks 4 = .ok (.getfield 72, 3) := by decide +kernel
theorem dX5_looks_7 : decode cX5_looks 7 = .ok (.if_icmp .ge 87, 3) := by decide +kernel
theorem dX5_looks_10 : decode cX5_looks 10 = .ok (.aload_n 0, 1) := by decide +kernel
theorem dX5_looks_11 : decode cX5_looks 11 = .ok (.getfield 56, 3) := by decide +kernel
theorem dX5_looks_14 : decode cX5_looks 14 = .ok (.iload_n 1, 1) := by decide +kernel
theorem dX5_looks_15 : decode cX5_looks 15 = .ok (.aload_n 0, 1) := by decide +kernel
theorem dX5_looks_16 : decode cX5_looks 16 = .ok (.getfield 13, 3) := by decide +kernel
theorem dX5_looks_19 : decode cX5_looks 19 = .ok (.iload_n 1, 1) := by decide +kernel
theorem dX5_looks_20 : decode cX5_looks 20 = .ok (.baload, 1) := by decide +kernel
theorem dX5_looks_21 : decode cX5_looks 21 = .ok (.ifCond .eq 11, 3) := by decide +kernel
theorem dX5_looks_24 : decode cX5_looks 24 = .ok (.aload_n 0, 1) := by decide +kernel
theorem dX5_looks_25 : decode cX5_looks 25 = .ok (.iload_n 1, 1) := by decide +kernel
theorem dX5_looks_26 : decode cX5_looks 26 = .ok (.invokevirtual 112, 3) := by decide +kernel
theorem dX5_looks_29 : decode cX5_looks 29 = .ok (.goto 4, 3) := by decide +kernel
theorem dX5_looks_32 : decode cX5_looks 32 = .ok (.iconst 0, 1) := by decide +kernel
theorem dX5_looks_33 : decode cX5_looks 33 = .ok (.iastore, 1) := by decide +kernel
theorem dX5_looks_34 : decode cX5_looks 34 = .ok (.iconst 0, 1) := by decide +kernel
theorem dX5_looks_35 : decode cX5_looks 35 = .ok (.istore_n 2, 1) := by decide +kernel
theorem dX5_looks_36 : decode cX5_looks 36 = .ok (.iload_n 2, 1) := by decide +kernel
theorem dX5_looks_37 : decode cX5_looks 37 = .ok (.aload_n 0, 1) := by decide +kernel
theorem dX5_looks_38 : decode cX5_looks 38 = .ok (.getfield 72, 3) := by decide +kernel
theorem dX5_looks_41 : decode cX5_looks 41 = .ok (.if_icmp .ge 47, 3) := by decide +kernel
theorem dX5_looks_44 : decode cX5_looks 44 = .ok (.aload_n 0, 1) := by decide +kernel
theorem dX5_looks_45 : decode cX5_looks 45 = .ok (.getfield 53, 3) := by decide +kernel
theorem dX5_looks_48 : decode cX5_looks 48 = .ok (.iload_n 1, 1) := by decide +kernel
theorem dX5_looks_49 : decode cX5_looks 49 = .ok (.iload_n 2, 1) := by decide +kernel
theorem dX5_looks_50 : decode cX5_looks 50 = .ok (.invokestatic 96, 3) := by decide +kernel
theorem dX5_looks_53 : decode cX5_looks 53 = .ok (.aload_n 0, 1) := by decide +kernel
theorem dX5_looks_54 : decode cX5_looks 54 = .ok (.getfield 13, 3) := by decide +kernel
theorem dX5_looks_57 : decode cX5_looks 57 = .ok (.iload_n 1, 1) := by decide +kernel
theorem dX5_looks_58 : decode cX5_looks 58 = .ok (.baload, 1) := by decide +kernel
theorem dX5_looks_59 : decode cX5_looks 59 = .ok (.ifCond .eq 21, 3) := by decide +kernel
theorem dX5_looks_62 : decode cX5_looks 62 = .ok (.aload_n 0, 1) := by decide +kernel
theorem dX5_looks_63 : decode cX5_looks 63 = .ok (.getfield 13, 3) := by decide +kernel
theorem dX5_looks_66 : decode cX5_looks 66 = .ok (.iload_n 2, 1) := by decide +kernel
theorem dX5_looks_67 : decode cX5_looks 67 = .ok (.baload, 1) := by decide +kernel
theorem dX5_looks_68 : decode cX5_looks 68 = .ok (.ifCond .eq 12, 3) := by decide +kernel
theorem dX5_looks_71 : decode cX5_looks 71 = .ok (.aload_n 0, 1) := by decide +kernel
theorem dX5_looks_72 : decode cX5_looks 72 = .ok (.iload_n 1, 1) := by decide +kernel
theorem dX5_looks_73 : decode cX5_looks 73 = .ok (.iload_n 2, 1) := by decide +kernel
theorem dX5_looks_74 : decode cX5_looks 74 = .ok (.invokevirtual 100, 3) := by decide +kernel
theorem dX5_looks_77 : decode cX5_looks 77 = .ok (.goto 4, 3) := by decide +kernel
theorem dX5_looks_80 : decode cX5_looks 80 = .ok (.iconst 0, 1) := by decide +kernel
theorem dX5_looks_81 : decode cX5_looks 81 = .ok (.iastore, 1) := by decide +kernel
theorem dX5_looks_82 : decode cX5_looks 82 = .ok (.iinc 2 1, 3) := by decide +kernel
theorem dX5_looks_85 : decode cX5_looks 85 = .ok (.goto (-49), 3) := by decide +kernel
theorem dX5_looks_88 : decode cX5_looks 88 = .ok (.iinc 1 1, 3) := by decide +kernel
theorem dX5_looks_91 : decode cX5_looks 91 = .ok (.goto (-89), 3) := by decide +kernel
theorem dX5_looks_94 : decode cX5_looks 94 = .ok (.return_, 1) := by decide +kernel
theorem dX5_isBetter_0 : decode cX5_isBetter 0 = .ok (.aload_n 0, 1) := by decide +kernel
theorem dX5_isBetter_1 : decode cX5_isBetter 1 = .ok (.getfield 32, 3) := by decide +kernel
theorem dX5_isBetter_4 : decode cX5_isBetter 4 = .ok (.iload_n 1, 1) := by decide +kernel
theorem dX5_isBetter_5 : decode cX5_isBetter 5 = .ok (.iload_n 2, 1) := by decide +kernel
theorem dX5_isBetter_6 : decode cX5_isBetter 6 = .ok (.invokestatic 115, 3) := by decide +kernel
theorem dX5_isBetter_9 : decode cX5_isBetter 9 = .ok (.iaload, 1) := by decide +kernel
theorem dX5_isBetter_10 : decode cX5_isBetter 10 = .ok (.aload_n 0, 1) := by decide +kernel
theorem dX5_isBetter_11 : decode cX5_isBetter 11 = .ok (.getfield 38, 3) := by decide +kernel
theorem dX5_isBetter_14 : decode cX5_isBetter 14 = .ok (.iload_n 1, 1) := by decide +kernel
theorem dX5_isBetter_15 : decode cX5_isBetter 15 = .ok (.iload_n 2, 1) := by decide +kernel
theorem dX5_isBetter_16 : decode cX5_isBetter 16 = .ok (.invokestatic 115, 3) := by decide +kernel
theorem dX5_isBetter_19 : decode cX5_isBetter 19 = .ok (.iaload, 1) := by decide +kernel
theorem dX5_isBetter_20 : decode cX5_isBetter 20 = .ok (.ior, 1) := by decide +kernel
theorem dX5_isBetter_21 : decode cX5_isBetter 21 = .ok (.ifCond .eq 7, 3) := by decide +kernel
theorem dX5_isBetter_24 : decode cX5_isBetter 24 = .ok (.iconst 1, 1) := by decide +kernel
theorem dX5_isBetter_25 : decode cX5_isBetter 25 = .ok (.goto 4, 3) := by decide +kernel
theorem dX5_isBetter_28 : decode cX5_isBetter 28 = .ok (.iconst 0, 1) := by decide +kernel
theorem dX5_isBetter_29 : decode cX5_isBetter 29 = .ok (.istore 4, 2) := by decide +kernel
theorem dX5_isBetter_31 : decode cX5_isBetter 31 = .ok (.aload_n 0, 1) := by decide +kernel
theorem dX5_isBetter_32 : decode cX5_isBetter 32 = .ok (.getfield 32, 3) := by decide +kernel
theorem dX5_isBetter_35 : decode cX5_isBetter 35 = .ok (.iload_n 1, 1) := by decide +kernel
theorem dX5_isBetter_36 : decode cX5_isBetter 36 = .ok (.iload_n 3, 1) := by decide +kernel
theorem dX5_isBetter_37 : decode cX5_isBetter 37 = .ok (.invokestatic 115, 3) := by decide +kernel
theorem dX5_isBetter_40 : decode cX5_isBetter 40 = .ok (.iaload, 1) := by decide +kernel
theorem dX5_isBetter_41 : decode cX5_isBetter 41 = .ok (.aload_n 0, 1) := by decide +kernel
theorem dX5_isBetter_42 : decode cX5_isBetter 42 = .ok (.getfield 38, 3) := by decide +kernel
theorem dX5_isBetter_45 : decode cX5_isBetter 45 = .ok (.iload_n 1, 1) := by decide +kernel
theorem dX5_isBetter_46 : decode cX5_isBetter 46 = .ok (.iload_n 3, 1) := by decide +kernel
theorem dX5_isBetter_47 : decode cX5_isBetter 47 = .ok (.invokestatic 115, 3) := by decide +kernel
theorem dX5_isBetter_50 : decode cX5_isBetter 50 = .ok (.iaload, 1) := by decide +kernel
theorem dX5_isBetter_51 : decode cX5_isBetter 51 = .ok (.ior, 1) := by decide +kernel
theorem dX5_isBetter_52 : decode cX5_isBetter 52 = .ok (.ifCond .eq 7, 3) := by decide +kernel
theorem dX5_isBetter_55 : decode cX5_isBetter 55 = .ok (.iconst 1, 1) := by decide +kernel
theorem dX5_isBetter_56 : decode cX5_isBetter 56 = .ok (.goto 4, 3) := by decide +kernel
theorem dX5_isBetter_59 : decode cX5_isBetter 59 = .ok (.iconst 0, 1) := by decide +kernel
theorem dX5_isBetter_60 : decode cX5_isBetter 60 = .ok (.istore 5, 2) := by decide +kernel
theorem dX5_isBetter_62 : decode cX5_isBetter 62 = .ok (.iload 4, 2) := by decide +kernel
theorem dX5_isBetter_64 : decode cX5_isBetter 64 = .ok (.iload 5, 2) := by decide +kernel
theorem dX5_isBetter_66 : decode cX5_isBetter 66 = .ok (.if_icmp .eq 6, 3) := by decide +kernel
theorem dX5_isBetter_69 : decode cX5_isBetter 69 = .ok (.iload 4, 2) := by decide +kernel
theorem dX5_isBetter_71 : decode cX5_isBetter 71 = .ok (.ireturn, 1) := by decide +kernel
theorem dX5_isBetter_72 : decode cX5_isBetter 72 = .ok (.aload_n 0, 1) := by decide +kernel
theorem dX5_isBetter_73 : decode cX5_isBetter 73 = .ok (.getfield 7, 3) := by decide +kernel
theorem dX5_isBetter_76 : decode cX5_isBetter 76 = .ok (.iload_n 2, 1) := by decide +kernel
theorem dX5_isBetter_77 : decode cX5_isBetter 77 = .ok (.iaload, 1) := by decide +kernel
theorem dX5_isBetter_78 : decode cX5_isBetter 78 = .ok (.aload_n 0, 1) := by decide +kernel
theorem dX5_isBetter_79 : decode cX5_isBetter 79 = .ok (.getfield 7, 3) := by decide +kernel
theorem dX5_isBetter_82 : decode cX5_isBetter 82 = .ok (.iload_n 3, 1) := by decide +kernel
theorem dX5_isBetter_83 : decode cX5_isBetter 83 = .ok (.iaload, 1) := by decide +kernel
theorem dX5_isBetter_84 : decode cX5_isBetter 84 = .ok (.if_icmp .eq 24, 3) := by decide +kernel
theorem dX5_isBetter_87 : decode cX5_isBetter 87 = .ok (.aload_n 0, 1) := by decide +kernel
theorem dX5_isBetter_88 : decode cX5_isBetter 88 = .ok (.getfield 7, 3) := by decide +kernel
theorem dX5_isBetter_91 : decode cX5_isBetter 91 = .ok (.iload_n 2, 1) := by decide +kernel
theorem dX5_isBetter_92 : decode cX5_isBetter 92 = .ok (.iaload, 1) := by decide +kernel
theorem dX5_isBetter_93 : decode cX5_isBetter 93 = .ok (.aload_n 0, 1) := by decide +kernel
theorem dX5_isBetter_94 : decode cX5_isBetter 94 = .ok (.getfield 7, 3) := by decide +kernel
theorem dX5_isBetter_97 : decode cX5_isBetter 97 = .ok (.iload_n 3, 1) := by decide +kernel
theorem dX5_isBetter_98 : decode cX5_isBetter 98 = .ok (.iaload, 1) := by decide +kernel
theorem dX5_isBetter_99 : decode cX5_isBetter 99 = .ok (.if_icmp .le 7, 3) := by decide +kernel
theorem dX5_isBetter_102 : decode cX5_isBetter 102 = .ok (.iconst 1, 1) := by decide +kernel
theorem dX5_isBetter_103 : decode cX5_isBetter 103 = .ok (.goto 4, 3) := by decide +kernel
theorem dX5_isBetter_106 : decode cX5_isBetter 106 = .ok (.iconst 0, 1) := by decide +kernel
theorem dX5_isBetter_107 : decode cX5_isBetter 107 = .ok (.ireturn, 1) := by decide +kernel
theorem dX5_isBetter_108 : decode cX5_isBetter 108 = .ok (.aload_n 0, 1) := by decide +kernel
theorem dX5_isBetter_109 : decode cX5_isBetter 109 = .ok (.getfield 23, 3) := by decide +kernel
theorem dX5_isBetter_112 : decode cX5_isBetter 112 = .ok (.iload_n 1, 1) := by decide +kernel
theorem dX5_isBetter_113 : decode cX5_isBetter 113 = .ok (.baload, 1) := by decide +kernel
theorem dX5_isBetter_114 : decode cX5_isBetter 114 = .ok (.ifCond .eq 7, 3) := by decide +kernel
theorem dX5_isBetter_117 : decode cX5_isBetter 117 = .ok (.iconst 0, 1) := by decide +kernel
theorem dX5_isBetter_118 : decode cX5_isBetter 118 = .ok (.goto 14, 3) := by decide +kernel
theorem dX5_isBetter_121 : decode cX5_isBetter 121 = .ok (.aload_n 0, 1) := by decide +kernel
theorem dX5_isBetter_122 : decode cX5_isBetter 122 = .ok (.iload_n 2, 1) := by decide +kernel
theorem dX5_isBetter_123 : decode cX5_isBetter 123 = .ok (.invokevirtual 93, 3) := by decide +kernel
theorem dX5_isBetter_126 : decode cX5_isBetter 126 = .ok (.aload_n 0, 1) := by decide +kernel
theorem dX5_isBetter_127 : decode cX5_isBetter 127 = .ok (.iload_n 3, 1) := by decide +kernel
theorem dX5_isBetter_128 : decode cX5_isBetter 128 = .ok (.invokevirtual 93, 3) := by decide +kernel
theorem dX5_isBetter_131 : decode cX5_isBetter 131 = .ok (.isub, 1) := by decide +kernel
theorem dX5_isBetter_132 : decode cX5_isBetter 132 = .ok (.istore 6, 2) := by decide +kernel
theorem dX5_isBetter_134 : decode cX5_isBetter 134 = .ok (.iload 6, 2) := by decide +kernel
theorem dX5_isBetter_136 : decode cX5_isBetter 136 = .ok (.ifCond .lt 13, 3) := by decide +kernel
theorem dX5_isBetter_139 : decode cX5_isBetter 139 = .ok (.iload 6, 2) := by decide +kernel
theorem dX5_isBetter_141 : decode cX5_isBetter 141 = .ok (.ifCond .ne 12, 3) := by decide +kernel
theorem dX5_isBetter_144 : decode cX5_isBetter 144 = .ok (.iload_n 2, 1) := by decide +kernel
theorem dX5_isBetter_145 : decode cX5_isBetter 145 = .ok (.iload_n 3, 1) := by decide +kernel
theorem dX5_isBetter_146 : decode cX5_isBetter 146 = .ok (.if_icmp .ge 7, 3) := by decide +kernel
theorem dX5_isBetter_149 : decode cX5_isBetter 149 = .ok (.iconst 1, 1) := by decide +kernel
theorem dX5_isBetter_150 : decode cX5_isBetter 150 = .ok (.goto 4, 3) := by decide +kernel
theorem dX5_isBetter_153 : decode cX5_isBetter 153 = .ok (.iconst 0, 1) := by decide +kernel
theorem dX5_isBetter_154 : decode cX5_isBetter 154 = .ok (.ireturn, 1) := by decide +kernel
theorem dX5_lowest_0 : decode cX5_lowest 0 = .ok (.iconst 0, 1) := by decide +kernel
theorem dX5_lowest_1 : decode cX5_lowest 1 = .ok (.istore_n 1, 1) := by decide +kernel
theorem dX5_lowest_2 : decode cX5_lowest 2 = .ok (.iload_n 0, 1) := by decide +kernel
theorem dX5_lowest_3 : decode cX5_lowest 3 = .ok (.iload_n 1, 1) := by decide +kernel
theorem dX5_lowest_4 : decode cX5_lowest 4 = .ok (.invokestatic 89, 3) := by decide +kernel
theorem dX5_lowest_7 : decode cX5_lowest 7 = .ok (.ifCond .ne 9, 3) := by decide +kernel
theorem dX5_lowest_10 : decode cX5_lowest 10 = .ok (.iinc 1 1, 3) := by decide +kernel
theorem dX5_lowest_13 : decode cX5_lowest 13 = .ok (.goto (-11), 3) := by decide +kernel
theorem dX5_lowest_16 : decode cX5_lowest 16 = .ok (.iload_n 1, 1) := by decide +kernel
theorem dX5_lowest_17 : decode cX5_lowest 17 = .ok (.ireturn, 1) := by decide +kernel
theorem dX5_hasAskedAll_0 : decode cX5_hasAskedAll 0 = .ok (.aload_n 0, 1) := by decide +kernel
theorem dX5_hasAskedAll_1 : decode cX5_hasAskedAll 1 = .ok (.iload_n 1, 1) := by decide +kernel
theorem dX5_hasAskedAll_2 : decode cX5_hasAskedAll 2 = .ok (.invokevirtual 103, 3) := by decide +kernel
theorem dX5_hasAskedAll_5 : decode cX5_hasAskedAll 5 = .ok (.istore_n 2, 1) := by decide +kernel
theorem dX5_hasAskedAll_6 : decode cX5_hasAskedAll 6 = .ok (.iconst 1, 1) := by decide +kernel
theorem dX5_hasAskedAll_7 : decode cX5_hasAskedAll 7 = .ok (.istore_n 3, 1) := by decide +kernel
theorem dX5_hasAskedAll_8 : decode cX5_hasAskedAll 8 = .ok (.iconst 0, 1) := by decide +kernel
theorem dX5_hasAskedAll_9 : decode cX5_hasAskedAll 9 = .ok (.istore 4, 2) := by decide +kernel
theorem dX5_hasAskedAll_11 : decode cX5_hasAskedAll 11 = .ok (.iload 4, 2) := by decide +kernel
theorem dX5_hasAskedAll_13 : decode cX5_hasAskedAll 13 = .ok (.bipush 12, 2) := by decide +kernel
theorem dX5_hasAskedAll_15 : decode cX5_hasAskedAll 15 = .ok (.if_icmp .ge 56, 3) := by decide +kernel
theorem dX5_hasAskedAll_18 : decode cX5_hasAskedAll 18 = .ok (.iload_n 3, 1) := by decide +kernel
theorem dX5_hasAskedAll_19 : decode cX5_hasAskedAll 19 = .ok (.ifCond .eq 44, 3) := by decide +kernel
theorem dX5_hasAskedAll_22 : decode cX5_hasAskedAll 22 = .ok (.iload_n 2, 1) := by decide +kernel
theorem dX5_hasAskedAll_23 : decode cX5_hasAskedAll 23 = .ok (.iload 4, 2) := by decide +kernel
theorem dX5_hasAskedAll_25 : decode cX5_hasAskedAll 25 = .ok (.invokestatic 89, 3) := by decide +kernel
theorem dX5_hasAskedAll_28 : decode cX5_hasAskedAll 28 = .ok (.ifCond .eq 31, 3) := by decide +kernel
theorem dX5_hasAskedAll_31 : decode cX5_hasAskedAll 31 = .ok (.aload_n 0, 1) := by decide +kernel
theorem dX5_hasAskedAll_32 : decode cX5_hasAskedAll 32 = .ok (.getfield 32, 3) := by decide +kernel
theorem dX5_hasAskedAll_35 : decode cX5_hasAskedAll 35 = .ok (.iload_n 1, 1) := by decide +kernel
theorem dX5_hasAskedAll_36 : decode cX5_hasAskedAll 36 = .ok (.iload 4, 2) := by decide +kernel
theorem dX5_hasAskedAll_38 : decode cX5_hasAskedAll 38 = .ok (.invokestatic 115, 3) := by decide +kernel
theorem dX5_hasAskedAll_41 : decode cX5_hasAskedAll 41 = .ok (.iaload, 1) := by decide +kernel
theorem dX5_hasAskedAll_42 : decode cX5_hasAskedAll 42 = .ok (.aload_n 0, 1) := by decide +kernel
theorem dX5_hasAskedAll_43 : decode cX5_hasAskedAll 43 = .ok (.getfield 38, 3) := by decide +kernel
theorem dX5_hasAskedAll_46 : decode cX5_hasAskedAll 46 = .ok (.iload_n 1, 1) := by decide +kernel
theorem dX5_hasAskedAll_47 : decode cX5_hasAskedAll 47 = .ok (.iload 4, 2) := by decide +kernel
theorem dX5_hasAskedAll_49 : decode cX5_hasAskedAll 49 = .ok (.invokestatic 115, 3) := by decide +kernel
theorem dX5_hasAskedAll_52 : decode cX5_hasAskedAll 52 = .ok (.iaload, 1) := by decide +kernel
theorem dX5_hasAskedAll_53 : decode cX5_hasAskedAll 53 = .ok (.ior, 1) := by decide +kernel
theorem dX5_hasAskedAll_54 : decode cX5_hasAskedAll 54 = .ok (.bipush 15, 2) := by decide +kernel
theorem dX5_hasAskedAll_56 : decode cX5_hasAskedAll 56 = .ok (.if_icmp .ne 7, 3) := by decide +kernel
theorem dX5_hasAskedAll_59 : decode cX5_hasAskedAll 59 = .ok (.iconst 1, 1) := by decide +kernel
theorem dX5_hasAskedAll_60 : decode cX5_hasAskedAll 60 = .ok (.goto 4, 3) := by decide +kernel
theorem dX5_hasAskedAll_63 : decode cX5_hasAskedAll 63 = .ok (.iconst 0, 1) := by decide +kernel
theorem dX5_hasAskedAll_64 : decode cX5_hasAskedAll 64 = .ok (.istore_n 3, 1) := by decide +kernel
theorem dX5_hasAskedAll_65 : decode cX5_hasAskedAll 65 = .ok (.iinc 4 1, 3) := by decide +kernel
theorem dX5_hasAskedAll_68 : decode cX5_hasAskedAll 68 = .ok (.goto (-57), 3) := by decide +kernel
theorem dX5_hasAskedAll_71 : decode cX5_hasAskedAll 71 = .ok (.iload_n 3, 1) := by decide +kernel
theorem dX5_hasAskedAll_72 : decode cX5_hasAskedAll 72 = .ok (.ireturn, 1) := by decide +kernel
theorem dX5_blockFor_0 : decode cX5_blockFor 0 = .ok (.aload_n 0, 1) := by decide +kernel
theorem dX5_blockFor_1 : decode cX5_blockFor 1 = .ok (.getfield 53, 3) := by decide +kernel
theorem dX5_blockFor_4 : decode cX5_blockFor 4 = .ok (.iload_n 2, 1) := by decide +kernel
theorem dX5_blockFor_5 : decode cX5_blockFor 5 = .ok (.iload_n 1, 1) := by decide +kernel
theorem dX5_blockFor_6 : decode cX5_blockFor 6 = .ok (.invokestatic 96, 3) := by decide +kernel
theorem dX5_blockFor_9 : decode cX5_blockFor 9 = .ok (.iaload, 1) := by decide +kernel
theorem dX5_blockFor_10 : decode cX5_blockFor 10 = .ok (.aload_n 0, 1) := by decide +kernel
theorem dX5_blockFor_11 : decode cX5_blockFor 11 = .ok (.iload_n 1, 1) := by decide +kernel
theorem dX5_blockFor_12 : decode cX5_blockFor 12 = .ok (.invokevirtual 103, 3) := by decide +kernel
theorem dX5_blockFor_15 : decode cX5_blockFor 15 = .ok (.iand, 1) := by decide +kernel
theorem dX5_blockFor_16 : decode cX5_blockFor 16 = .ok (.istore_n 3, 1) := by decide +kernel
theorem dX5_blockFor_17 : decode cX5_blockFor 17 = .ok (.iconst (-1), 1) := by decide +kernel
theorem dX5_blockFor_18 : decode cX5_blockFor 18 = .ok (.istore 4, 2) := by decide +kernel
theorem dX5_blockFor_20 : decode cX5_blockFor 20 = .ok (.iconst (-1), 1) := by decide +kernel
theorem dX5_blockFor_21 : decode cX5_blockFor 21 = .ok (.istore 5, 2) := by decide +kernel
theorem dX5_blockFor_23 : decode cX5_blockFor 23 = .ok (.bipush 11, 2) := by decide +kernel
theorem dX5_blockFor_25 : decode cX5_blockFor 25 = .ok (.istore 6, 2) := by decide +kernel
theorem dX5_blockFor_27 : decode cX5_blockFor 27 = .ok (.iload 6, 2) := by decide +kernel
theorem dX5_blockFor_29 : decode cX5_blockFor 29 = .ok (.ifCond .lt 120, 3) := by decide +kernel
theorem dX5_blockFor_32 : decode cX5_blockFor 32 = .ok (.iload_n 3, 1) := by decide +kernel
theorem dX5_blockFor_33 : decode cX5_blockFor 33 = .ok (.iload 6, 2) := by decide +kernel
theorem dX5_blockFor_35 : decode cX5_blockFor 35 = .ok (.invokestatic 89, 3) := by decide +kernel
theorem dX5_blockFor_38 : decode cX5_blockFor 38 = .ok (.ifCond .eq 22, 3) := by decide +kernel
theorem dX5_blockFor_41 : decode cX5_blockFor 41 = .ok (.bipush 15, 2) := by decide +kernel
theorem dX5_blockFor_43 : decode cX5_blockFor 43 = .ok (.aload_n 0, 1) := by decide +kernel
theorem dX5_blockFor_44 : decode cX5_blockFor 44 = .ok (.getfield 32, 3) := by decide +kernel
theorem dX5_blockFor_47 : decode cX5_blockFor 47 = .ok (.iload_n 1, 1) := by decide +kernel
theorem dX5_blockFor_48 : decode cX5_blockFor 48 = .ok (.iload 6, 2) := by decide +kernel
theorem dX5_blockFor_50 : decode cX5_blockFor 50 = .ok (.invokestatic 115, 3) := by decide +kernel
theorem dX5_blockFor_53 : decode cX5_blockFor 53 = .ok (.iaload, 1) := by decide +kernel
theorem dX5_blockFor_54 : decode cX5_blockFor 54 = .ok (.iconst (-1), 1) := by decide +kernel
theorem dX5_blockFor_55 : decode cX5_blockFor 55 = .ok (.ixor, 1) := by decide +kernel
theorem dX5_blockFor_56 : decode cX5_blockFor 56 = .ok (.iand, 1) := by decide +kernel
theorem dX5_blockFor_57 : decode cX5_blockFor 57 = .ok (.goto 4, 3) := by decide +kernel
theorem dX5_blockFor_60 : decode cX5_blockFor 60 = .ok (.iconst 0, 1) := by decide +kernel
theorem dX5_blockFor_61 : decode cX5_blockFor 61 = .ok (.istore 7, 2) := by decide +kernel
theorem dX5_blockFor_63 : decode cX5_blockFor 63 = .ok (.iload 7, 2) := by decide +kernel
theorem dX5_blockFor_65 : decode cX5_blockFor 65 = .ok (.aload_n 0, 1) := by decide +kernel
theorem dX5_blockFor_66 : decode cX5_blockFor 66 = .ok (.getfield 38, 3) := by decide +kernel
theorem dX5_blockFor_69 : decode cX5_blockFor 69 = .ok (.iload_n 1, 1) := by decide +kernel
theorem dX5_blockFor_70 : decode cX5_blockFor 70 = .ok (.iload 6, 2) := by decide +kernel
theorem dX5_blockFor_72 : decode cX5_blockFor 72 = .ok (.invokestatic 115, 3) := by decide +kernel
theorem dX5_blockFor_75 : decode cX5_blockFor 75 = .ok (.iaload, 1) := by decide +kernel
theorem dX5_blockFor_76 : decode cX5_blockFor 76 = .ok (.iconst (-1), 1) := by decide +kernel
theorem dX5_blockFor_77 : decode cX5_blockFor 77 = .ok (.ixor, 1) := by decide +kernel
theorem dX5_blockFor_78 : decode cX5_blockFor 78 = .ok (.iand, 1) := by decide +kernel
theorem dX5_blockFor_79 : decode cX5_blockFor 79 = .ok (.ifCond .eq 7, 3) := by decide +kernel
theorem dX5_blockFor_82 : decode cX5_blockFor 82 = .ok (.iconst 1, 1) := by decide +kernel
theorem dX5_blockFor_83 : decode cX5_blockFor 83 = .ok (.goto 4, 3) := by decide +kernel
theorem dX5_blockFor_86 : decode cX5_blockFor 86 = .ok (.iconst 0, 1) := by decide +kernel
theorem dX5_blockFor_87 : decode cX5_blockFor 87 = .ok (.istore 8, 2) := by decide +kernel
theorem dX5_blockFor_89 : decode cX5_blockFor 89 = .ok (.iload 8, 2) := by decide +kernel
theorem dX5_blockFor_91 : decode cX5_blockFor 91 = .ok (.ifCond .eq 26, 3) := by decide +kernel
theorem dX5_blockFor_94 : decode cX5_blockFor 94 = .ok (.iload 4, 2) := by decide +kernel
theorem dX5_blockFor_96 : decode cX5_blockFor 96 = .ok (.iconst (-1), 1) := by decide +kernel
theorem dX5_blockFor_97 : decode cX5_blockFor 97 = .ok (.if_icmp .eq 15, 3) := by decide +kernel
theorem dX5_blockFor_100 : decode cX5_blockFor 100 = .ok (.aload_n 0, 1) := by decide +kernel
theorem dX5_blockFor_101 : decode cX5_blockFor 101 = .ok (.iload_n 1, 1) := by decide +kernel
theorem dX5_blockFor_102 : decode cX5_blockFor 102 = .ok (.iload 6, 2) := by decide +kernel
theorem dX5_blockFor_104 : decode cX5_blockFor 104 = .ok (.iload 4, 2) := by decide +kernel
theorem dX5_blockFor_106 : decode cX5_blockFor 106 = .ok (.invokevirtual 118, 3) := by decide +kernel
theorem dX5_blockFor_109 : decode cX5_blockFor 109 = .ok (.ifCond .eq 8, 3) := by decide +kernel
theorem dX5_blockFor_112 : decode cX5_blockFor 112 = .ok (.iload 6, 2) := by decide +kernel
theorem dX5_blockFor_114 : decode cX5_blockFor 114 = .ok (.goto 5, 3) := by decide +kernel
theorem dX5_blockFor_117 : decode cX5_blockFor 117 = .ok (.iload 4, 2) := by decide +kernel
theorem dX5_blockFor_119 : decode cX5_blockFor 119 = .ok (.istore 4, 2) := by decide +kernel
theorem dX5_blockFor_121 : decode cX5_blockFor 121 = .ok (.iload 7, 2) := by decide +kernel
theorem dX5_blockFor_123 : decode cX5_blockFor 123 = .ok (.ifCond .eq 16, 3) := by decide +kernel
theorem dX5_blockFor_126 : decode cX5_blockFor 126 = .ok (.iconst 4, 1) := by decide +kernel
theorem dX5_blockFor_127 : decode cX5_blockFor 127 = .ok (.iload 6, 2) := by decide +kernel
theorem dX5_blockFor_129 : decode cX5_blockFor 129 = .ok (.imul, 1) := by decide +kernel
theorem dX5_blockFor_130 : decode cX5_blockFor 130 = .ok (.iload 7, 2) := by decide +kernel
theorem dX5_blockFor_132 : decode cX5_blockFor 132 = .ok (.invokestatic 122, 3) := by decide +kernel
theorem dX5_blockFor_135 : decode cX5_blockFor 135 = .ok (.iadd, 1) := by decide +kernel
theorem dX5_blockFor_136 : decode cX5_blockFor 136 = .ok (.goto 5, 3) := by decide +kernel
theorem dX5_blockFor_139 : decode cX5_blockFor 139 = .ok (.iload 5, 2) := by decide +kernel
theorem dX5_blockFor_141 : decode cX5_blockFor 141 = .ok (.istore 5, 2) := by decide +kernel
theorem dX5_blockFor_143 : decode cX5_blockFor 143 = .ok (.iinc 6 (-1), 3) := by decide +kernel
theorem dX5_blockFor_146 : decode cX5_blockFor 146 = .ok (.goto (-119), 3) := by decide +kernel
theorem dX5_blockFor_149 : decode cX5_blockFor 149 = .ok (.iload 4, 2) := by decide +kernel
theorem dX5_blockFor_151 : decode cX5_blockFor 151 = .ok (.iconst (-1), 1) := by decide +kernel
theorem dX5_blockFor_152 : decode cX5_blockFor 152 = .ok (.if_icmp .eq 42, 3) := by decide +kernel
theorem dX5_blockFor_155 : decode cX5_blockFor 155 = .ok (.iconst 4, 1) := by decide +kernel
theorem dX5_blockFor_156 : decode cX5_blockFor 156 = .ok (.iload 4, 2) := by decide +kernel
theorem dX5_blockFor_158 : decode cX5_blockFor 158 = .ok (.imul, 1) := by decide +kernel
theorem dX5_blockFor_159 : decode cX5_blockFor 159 = .ok (.bipush 15, 2) := by decide +kernel
theorem dX5_blockFor_161 : decode cX5_blockFor 161 = .ok (.aload_n 0, 1) := by decide +kernel
theorem dX5_blockFor_162 : decode cX5_blockFor 162 = .ok (.getfield 32, 3) := by decide +kernel
theorem dX5_blockFor_165 : decode cX5_blockFor 165 = .ok (.iload_n 1, 1) := by decide +kernel
theorem dX5_blockFor_166 : decode cX5_blockFor 166 = .ok (.iload 4, 2) := by decide +kernel
theorem dX5_blockFor_168 : decode cX5_blockFor 168 = .ok (.invokestatic 115, 3) := by decide +kernel
theorem dX5_blockFor_171 : decode cX5_blockFor 171 = .ok (.iaload, 1) := by decide +kernel
theorem dX5_blockFor_172 : decode cX5_blockFor 172 = .ok (.iconst (-1), 1) := by decide +kernel
theorem dX5_blockFor_173 : decode cX5_blockFor 173 = .ok (.ixor, 1) := by decide +kernel
theorem dX5_blockFor_174 : decode cX5_blockFor 174 = .ok (.iand, 1) := by decide +kernel
theorem dX5_blockFor_175 : decode cX5_blockFor 175 = .ok (.aload_n 0, 1) := by decide +kernel
theorem dX5_blockFor_176 : decode cX5_blockFor 176 = .ok (.getfield 38, 3) := by decide +kernel
theorem dX5_blockFor_179 : decode cX5_blockFor 179 = .ok (.iload_n 1, 1) := by decide +kernel
theorem dX5_blockFor_180 : decode cX5_blockFor 180 = .ok (.iload 4, 2) := by decide +kernel
theorem dX5_blockFor_182 : decode cX5_blockFor 182 = .ok (.invokestatic 115, 3) := by decide +kernel
theorem dX5_blockFor_185 : decode cX5_blockFor 185 = .ok (.iaload, 1) := by decide +kernel
theorem dX5_blockFor_186 : decode cX5_blockFor 186 = .ok (.iconst (-1), 1) := by decide +kernel
theorem dX5_blockFor_187 : decode cX5_blockFor 187 = .ok (.ixor, 1) := by decide +kernel
theorem dX5_blockFor_188 : decode cX5_blockFor 188 = .ok (.iand, 1) := by decide +kernel
theorem dX5_blockFor_189 : decode cX5_blockFor 189 = .ok (.invokestatic 122, 3) := by decide +kernel
theorem dX5_blockFor_192 : decode cX5_blockFor 192 = .ok (.iadd, 1) := by decide +kernel
theorem dX5_blockFor_193 : decode cX5_blockFor 193 = .ok (.ireturn, 1) := by decide +kernel
theorem dX5_blockFor_194 : decode cX5_blockFor 194 = .ok (.aload_n 0, 1) := by decide +kernel
theorem dX5_blockFor_195 : decode cX5_blockFor 195 = .ok (.iload_n 1, 1) := by decide +kernel
theorem dX5_blockFor_196 : decode cX5_blockFor 196 = .ok (.invokevirtual 125, 3) := by decide +kernel
theorem dX5_blockFor_199 : decode cX5_blockFor 199 = .ok (.ifCond .eq 8, 3) := by decide +kernel
theorem dX5_blockFor_202 : decode cX5_blockFor 202 = .ok (.iload 5, 2) := by decide +kernel
theorem dX5_blockFor_204 : decode cX5_blockFor 204 = .ok (.goto 4, 3) := by decide +kernel
theorem dX5_blockFor_207 : decode cX5_blockFor 207 = .ok (.iconst (-1), 1) := by decide +kernel
theorem dX5_blockFor_208 : decode cX5_blockFor 208 = .ok (.ireturn, 1) := by decide +kernel
theorem dX5_asks_0 : decode cX5_asks 0 = .ok (.aload_n 0, 1) := by decide +kernel
theorem dX5_asks_1 : decode cX5_asks 1 = .ok (.iconst 0, 1) := by decide +kernel
theorem dX5_asks_2 : decode cX5_asks 2 = .ok (.putfield 128, 3) := by decide +kernel
theorem dX5_asks_5 : decode cX5_asks 5 = .ok (.iconst 0, 1) := by decide +kernel
theorem dX5_asks_6 : decode cX5_asks 6 = .ok (.istore_n 1, 1) := by decide +kernel
theorem dX5_asks_7 : decode cX5_asks 7 = .ok (.iload_n 1, 1) := by decide +kernel
theorem dX5_asks_8 : decode cX5_asks 8 = .ok (.bipush 72, 2) := by decide +kernel
theorem dX5_asks_10 : decode cX5_asks 10 = .ok (.if_icmp .ge 16, 3) := by decide +kernel
theorem dX5_asks_13 : decode cX5_asks 13 = .ok (.aload_n 0, 1) := by decide +kernel
theorem dX5_asks_14 : decode cX5_asks 14 = .ok (.getfield 38, 3) := by decide +kernel
theorem dX5_asks_17 : decode cX5_asks 17 = .ok (.iload_n 1, 1) := by decide +kernel
theorem dX5_asks_18 : decode cX5_asks 18 = .ok (.iconst 0, 1) := by decide +kernel
theorem dX5_asks_19 : decode cX5_asks 19 = .ok (.iastore, 1) := by decide +kernel
theorem dX5_asks_20 : decode cX5_asks 20 = .ok (.iinc 1 1, 3) := by decide +kernel
theorem dX5_asks_23 : decode cX5_asks 23 = .ok (.goto (-16), 3) := by decide +kernel
theorem dX5_asks_26 : decode cX5_asks 26 = .ok (.iconst 0, 1) := by decide +kernel
theorem dX5_asks_27 : decode cX5_asks 27 = .ok (.istore_n 1, 1) := by decide +kernel
theorem dX5_asks_28 : decode cX5_asks 28 = .ok (.iload_n 1, 1) := by decide +kernel
theorem dX5_asks_29 : decode cX5_asks 29 = .ok (.aload_n 0, 1) := by decide +kernel
theorem dX5_asks_30 : decode cX5_asks 30 = .ok (.getfield 72, 3) := by decide +kernel
theorem dX5_asks_33 : decode cX5_asks 33 = .ok (.if_icmp .ge 114, 3) := by decide +kernel
theorem dX5_asks_36 : decode cX5_asks 36 = .ok (.iconst 0, 1) := by decide +kernel
theorem dX5_asks_37 : decode cX5_asks 37 = .ok (.istore_n 2, 1) := by decide +kernel
theorem dX5_asks_38 : decode cX5_asks 38 = .ok (.iload_n 2, 1) := by decide +kernel
theorem dX5_asks_39 : decode cX5_asks 39 = .ok (.aload_n 0, 1) := by decide +kernel
theorem dX5_asks_40 : decode cX5_asks 40 = .ok (.getfield 72, 3) := by decide +kernel
theorem dX5_asks_43 : decode cX5_asks 43 = .ok (.if_icmp .ge 98, 3) := by decide +kernel
theorem dX5_asks_46 : decode cX5_asks 46 = .ok (.aload_n 0, 1) := by decide +kernel
theorem dX5_asks_47 : decode cX5_asks 47 = .ok (.getfield 56, 3) := by decide +kernel
theorem dX5_asks_50 : decode cX5_asks 50 = .ok (.iload_n 2, 1) := by decide +kernel
theorem dX5_asks_51 : decode cX5_asks 51 = .ok (.iaload, 1) := by decide +kernel
theorem dX5_asks_52 : decode cX5_asks 52 = .ok (.iload_n 1, 1) := by decide +kernel
theorem dX5_asks_53 : decode cX5_asks 53 = .ok (.invokestatic 89, 3) := by decide +kernel
theorem dX5_asks_56 : decode cX5_asks 56 = .ok (.ifCond .eq 12, 3) := by decide +kernel
theorem dX5_asks_59 : decode cX5_asks 59 = .ok (.aload_n 0, 1) := by decide +kernel
theorem dX5_asks_60 : decode cX5_asks 60 = .ok (.iload_n 1, 1) := by decide +kernel
theorem dX5_asks_61 : decode cX5_asks 61 = .ok (.iload_n 2, 1) := by decide +kernel
theorem dX5_asks_62 : decode cX5_asks 62 = .ok (.invokevirtual 131, 3) := by decide +kernel
theorem dX5_asks_65 : decode cX5_asks 65 = .ok (.goto 4, 3) := by decide +kernel
theorem dX5_asks_68 : decode cX5_asks 68 = .ok (.iconst (-1), 1) := by decide +kernel
theorem dX5_asks_69 : decode cX5_asks 69 = .ok (.istore_n 3, 1) := by decide +kernel
theorem dX5_asks_70 : decode cX5_asks 70 = .ok (.iload_n 3, 1) := by decide +kernel
theorem dX5_asks_71 : decode cX5_asks 71 = .ok (.iconst (-1), 1) := by decide +kernel
theorem dX5_asks_72 : decode cX5_asks 72 = .ok (.if_icmp .eq 63, 3) := by decide +kernel
theorem dX5_asks_75 : decode cX5_asks 75 = .ok (.aload_n 0, 1) := by decide +kernel
theorem dX5_asks_76 : decode cX5_asks 76 = .ok (.getfield 38, 3) := by decide +kernel
theorem dX5_asks_79 : decode cX5_asks 79 = .ok (.iload_n 1, 1) := by decide +kernel
theorem dX5_asks_80 : decode cX5_asks 80 = .ok (.iload_n 3, 1) := by decide +kernel
theorem dX5_asks_81 : decode cX5_asks 81 = .ok (.iconst 4, 1) := by decide +kernel
theorem dX5_asks_82 : decode cX5_asks 82 = .ok (.idiv, 1) := by decide +kernel
theorem dX5_asks_83 : decode cX5_asks 83 = .ok (.invokestatic 115, 3) := by decide +kernel
theorem dX5_asks_86 : decode cX5_asks 86 = .ok (.dup2, 1) := by decide +kernel
theorem dX5_asks_87 : decode cX5_asks 87 = .ok (.iaload, 1) := by decide +kernel
theorem dX5_asks_88 : decode cX5_asks 88 = .ok (.iconst 1, 1) := by decide +kernel
theorem dX5_asks_89 : decode cX5_asks 89 = .ok (.iload_n 3, 1) := by decide +kernel
theorem dX5_asks_90 : decode cX5_asks 90 = .ok (.iconst 4, 1) := by decide +kernel
theorem dX5_asks_91 : decode cX5_asks 91 = .ok (.irem, 1) := by decide +kernel
theorem dX5_asks_92 : decode cX5_asks 92 = .ok (.ishl, 1) := by decide +kernel
theorem dX5_asks_93 : decode cX5_asks 93 = .ok (.ior, 1) := by decide +kernel
theorem dX5_asks_94 : decode cX5_asks 94 = .ok (.iastore, 1) := by decide +kernel
theorem dX5_asks_95 : decode cX5_asks 95 = .ok (.aload_n 0, 1) := by decide +kernel
theorem dX5_asks_96 : decode cX5_asks 96 = .ok (.getfield 59, 3) := by decide +kernel
theorem dX5_asks_99 : decode cX5_asks 99 = .ok (.aload_n 0, 1) := by decide +kernel
theorem dX5_asks_100 : decode cX5_asks 100 = .ok (.getfield 128, 3) := by decide +kernel
theorem dX5_asks_103 : decode cX5_asks 103 = .ok (.iload_n 1, 1) := by decide +kernel
theorem dX5_asks_104 : decode cX5_asks 104 = .ok (.iastore, 1) := by decide +kernel
theorem dX5_asks_105 : decode cX5_asks 105 = .ok (.aload_n 0, 1) := by decide +kernel
theorem dX5_asks_106 : decode cX5_asks 106 = .ok (.getfield 62, 3) := by decide +kernel
theorem dX5_asks_109 : decode cX5_asks 109 = .ok (.aload_n 0, 1) := by decide +kernel
theorem dX5_asks_110 : decode cX5_asks 110 = .ok (.getfield 128, 3) := by decide +kernel
theorem dX5_asks_113 : decode cX5_asks 113 = .ok (.iload_n 2, 1) := by decide +kernel
theorem dX5_asks_114 : decode cX5_asks 114 = .ok (.iastore, 1) := by decide +kernel
theorem dX5_asks_115 : decode cX5_asks 115 = .ok (.aload_n 0, 1) := by decide +kernel
theorem dX5_asks_116 : decode cX5_asks 116 = .ok (.getfield 65, 3) := by decide +kernel
theorem dX5_asks_119 : decode cX5_asks 119 = .ok (.aload_n 0, 1) := by decide +kernel
theorem dX5_asks_120 : decode cX5_asks 120 = .ok (.getfield 128, 3) := by decide +kernel
theorem dX5_asks_123 : decode cX5_asks 123 = .ok (.iload_n 3, 1) := by decide +kernel
theorem dX5_asks_124 : decode cX5_asks 124 = .ok (.iastore, 1) := by decide +kernel
theorem dX5_asks_125 : decode cX5_asks 125 = .ok (.aload_n 0, 1) := by decide +kernel
theorem dX5_asks_126 : decode cX5_asks 126 = .ok (.dup, 1) := by decide +kernel
theorem dX5_asks_127 : decode cX5_asks 127 = .ok (.getfield 128, 3) := by decide +kernel
theorem dX5_asks_130 : decode cX5_asks 130 = .ok (.iconst 1, 1) := by decide +kernel
theorem dX5_asks_131 : decode cX5_asks 131 = .ok (.iadd, 1) := by decide +kernel
theorem dX5_asks_132 : decode cX5_asks 132 = .ok (.putfield 128, 3) := by decide +kernel
theorem dX5_asks_135 : decode cX5_asks 135 = .ok (.iinc 2 1, 3) := by decide +kernel
theorem dX5_asks_138 : decode cX5_asks 138 = .ok (.goto (-100), 3) := by decide +kernel
theorem dX5_asks_141 : decode cX5_asks 141 = .ok (.iinc 1 1, 3) := by decide +kernel
theorem dX5_asks_144 : decode cX5_asks 144 = .ok (.goto (-116), 3) := by decide +kernel
theorem dX5_asks_147 : decode cX5_asks 147 = .ok (.return_, 1) := by decide +kernel
theorem dX5_comes_0 : decode cX5_comes 0 = .ok (.iconst 0, 1) := by decide +kernel
theorem dX5_comes_1 : decode cX5_comes 1 = .ok (.istore_n 1, 1) := by decide +kernel
theorem dX5_comes_2 : decode cX5_comes 2 = .ok (.iconst 0, 1) := by decide +kernel
theorem dX5_comes_3 : decode cX5_comes 3 = .ok (.istore_n 2, 1) := by decide +kernel
theorem dX5_comes_4 : decode cX5_comes 4 = .ok (.iload_n 2, 1) := by decide +kernel
theorem dX5_comes_5 : decode cX5_comes 5 = .ok (.bipush 36, 2) := by decide +kernel
theorem dX5_comes_7 : decode cX5_comes 7 = .ok (.if_icmp .ge 16, 3) := by decide +kernel
theorem dX5_comes_10 : decode cX5_comes 10 = .ok (.aload_n 0, 1) := by decide +kernel
theorem dX5_comes_11 : decode cX5_comes 11 = .ok (.getfield 44, 3) := by decide +kernel
theorem dX5_comes_14 : decode cX5_comes 14 = .ok (.iload_n 2, 1) := by decide +kernel
theorem dX5_comes_15 : decode cX5_comes 15 = .ok (.iconst 0, 1) := by decide +kernel
theorem dX5_comes_16 : decode cX5_comes 16 = .ok (.iastore, 1) := by decide +kernel
theorem dX5_comes_17 : decode cX5_comes 17 = .ok (.iinc 2 1, 3) := by decide +kernel
theorem dX5_comes_20 : decode cX5_comes 20 = .ok (.goto (-16), 3) := by decide +kernel
theorem dX5_comes_23 : decode cX5_comes 23 = .ok (.iconst 0, 1) := by decide +kernel
theorem dX5_comes_24 : decode cX5_comes 24 = .ok (.istore_n 2, 1) := by decide +kernel
theorem dX5_comes_25 : decode cX5_comes 25 = .ok (.iload_n 2, 1) := by decide +kernel
theorem dX5_comes_26 : decode cX5_comes 26 = .ok (.aload_n 0, 1) := by decide +kernel
theorem dX5_comes_27 : decode cX5_comes 27 = .ok (.getfield 128, 3) := by decide +kernel
theorem dX5_comes_30 : decode cX5_comes 30 = .ok (.if_icmp .ge 174, 3) := by decide +kernel
theorem dX5_comes_33 : decode cX5_comes 33 = .ok (.aload_n 0, 1) := by decide +kernel
theorem dX5_comes_34 : decode cX5_comes 34 = .ok (.getfield 59, 3) := by decide +kernel
theorem dX5_comes_37 : decode cX5_comes 37 = .ok (.iload_n 2, 1) := by decide +kernel
theorem dX5_comes_38 : decode cX5_comes 38 = .ok (.iaload, 1) := by decide +kernel
theorem dX5_comes_39 : decode cX5_comes 39 = .ok (.aload_n 0, 1) := by decide +kernel
theorem dX5_comes_40 : decode cX5_comes 40 = .ok (.getfield 65, 3) := by decide +kernel
theorem dX5_comes_43 : decode cX5_comes 43 = .ok (.iload_n 2, 1) := by decide +kernel
theorem dX5_comes_44 : decode cX5_comes 44 = .ok (.iaload, 1) := by decide +kernel
theorem dX5_comes_45 : decode cX5_comes 45 = .ok (.iconst 4, 1) := by decide +kernel
theorem dX5_comes_46 : decode cX5_comes 46 = .ok (.idiv, 1) := by decide +kernel
theorem dX5_comes_47 : decode cX5_comes 47 = .ok (.invokestatic 115, 3) := by decide +kernel
theorem dX5_comes_50 : decode cX5_comes 50 = .ok (.istore_n 3, 1) := by decide +kernel
theorem dX5_comes_51 : decode cX5_comes 51 = .ok (.iconst 1, 1) := by decide +kernel
theorem dX5_comes_52 : decode cX5_comes 52 = .ok (.aload_n 0, 1) := by decide +kernel
theorem dX5_comes_53 : decode cX5_comes 53 = .ok (.getfield 65, 3) := by decide +kernel
theorem dX5_comes_56 : decode cX5_comes 56 = .ok (.iload_n 2, 1) := by decide +kernel
theorem dX5_comes_57 : decode cX5_comes 57 = .ok (.iaload, 1) := by decide +kernel
theorem dX5_comes_58 : decode cX5_comes 58 = .ok (.iconst 4, 1) := by decide +kernel
theorem dX5_comes_59 : decode cX5_comes 59 = .ok (.irem, 1) := by decide +kernel
theorem dX5_comes_60 : decode cX5_comes 60 = .ok (.ishl, 1) := by decide +kernel
theorem dX5_comes_61 : decode cX5_comes 61 = .ok (.istore 4, 2) := by decide +kernel
theorem dX5_comes_63 : decode cX5_comes 63 = .ok (.aload_n 0, 1) := by decide +kernel
theorem dX5_comes_64 : decode cX5_comes 64 = .ok (.getfield 32, 3) := by decide +kernel
theorem dX5_comes_67 : decode cX5_comes 67 = .ok (.iload_n 3, 1) := by decide +kernel
theorem dX5_comes_68 : decode cX5_comes 68 = .ok (.iaload, 1) := by decide +kernel
theorem dX5_comes_69 : decode cX5_comes 69 = .ok (.iload 4, 2) := by decide +kernel
theorem dX5_comes_71 : decode cX5_comes 71 = .ok (.iand, 1) := by decide +kernel
theorem dX5_comes_72 : decode cX5_comes 72 = .ok (.ifCond .eq 21, 3) := by decide +kernel
theorem dX5_comes_75 : decode cX5_comes 75 = .ok (.aload_n 0, 1) := by decide +kernel
theorem dX5_comes_76 : decode cX5_comes 76 = .ok (.getfield 29, 3) := by decide +kernel
theorem dX5_comes_79 : decode cX5_comes 79 = .ok (.aload_n 0, 1) := by decide +kernel
theorem dX5_comes_80 : decode cX5_comes 80 = .ok (.getfield 59, 3) := by decide +kernel
theorem dX5_comes_83 : decode cX5_comes 83 = .ok (.iload_n 2, 1) := by decide +kernel
theorem dX5_comes_84 : decode cX5_comes 84 = .ok (.iaload, 1) := by decide +kernel
theorem dX5_comes_85 : decode cX5_comes 85 = .ok (.dup2, 1) := by decide +kernel
theorem dX5_comes_86 : decode cX5_comes 86 = .ok (.iaload, 1) := by decide +kernel
theorem dX5_comes_87 : decode cX5_comes 87 = .ok (.iconst 1, 1) := by decide +kernel
theorem dX5_comes_88 : decode cX5_comes 88 = .ok (.iadd, 1) := by decide +kernel
theorem dX5_comes_89 : decode cX5_comes 89 = .ok (.iastore, 1) := by decide +kernel
theorem dX5_comes_90 : decode cX5_comes 90 = .ok (.goto 108, 3) := by decide +kernel
theorem dX5_comes_93 : decode cX5_comes 93 = .ok (.aload_n 0, 1) := by decide +kernel
theorem dX5_comes_94 : decode cX5_comes 94 = .ok (.getfield 32, 3) := by decide +kernel
theorem dX5_comes_97 : decode cX5_comes 97 = .ok (.iload_n 3, 1) := by decide +kernel
theorem dX5_comes_98 : decode cX5_comes 98 = .ok (.dup2, 1) := by decide +kernel
theorem dX5_comes_99 : decode cX5_comes 99 = .ok (.iaload, 1) := by decide +kernel
theorem dX5_comes_100 : decode cX5_comes 100 = .ok (.iload 4, 2) := by decide +kernel
theorem dX5_comes_102 : decode cX5_comes 102 = .ok (.ior, 1) := by decide +kernel
theorem dX5_comes_103 : decode cX5_comes 103 = .ok (.iastore, 1) := by decide +kernel
theorem dX5_comes_104 : decode cX5_comes 104 = .ok (.aload_n 0, 1) := by decide +kernel
theorem dX5_comes_105 : decode cX5_comes 105 = .ok (.getfield 35, 3) := by decide +kernel
theorem dX5_comes_108 : decode cX5_comes 108 = .ok (.iload_n 3, 1) := by decide +kernel
theorem dX5_comes_109 : decode cX5_comes 109 = .ok (.dup2, 1) := by decide +kernel
theorem dX5_comes_110 : decode cX5_comes 110 = .ok (.iaload, 1) := by decide +kernel
theorem dX5_comes_111 : decode cX5_comes 111 = .ok (.aload_n 0, 1) := by decide +kernel
theorem dX5_comes_112 : decode cX5_comes 112 = .ok (.getfield 26, 3) := by decide +kernel
theorem dX5_comes_115 : decode cX5_comes 115 = .ok (.aload_n 0, 1) := by decide +kernel
theorem dX5_comes_116 : decode cX5_comes 116 = .ok (.getfield 62, 3) := by decide +kernel
theorem dX5_comes_119 : decode cX5_comes 119 = .ok (.iload_n 2, 1) := by decide +kernel
theorem dX5_comes_120 : decode cX5_comes 120 = .ok (.iaload, 1) := by decide +kernel
theorem dX5_comes_121 : decode cX5_comes 121 = .ok (.iaload, 1) := by decide +kernel
theorem dX5_comes_122 : decode cX5_comes 122 = .ok (.aload_n 0, 1) := by decide +kernel
theorem dX5_comes_123 : decode cX5_comes 123 = .ok (.getfield 65, 3) := by decide +kernel
theorem dX5_comes_126 : decode cX5_comes 126 = .ok (.iload_n 2, 1) := by decide +kernel
theorem dX5_comes_127 : decode cX5_comes 127 = .ok (.iaload, 1) := by decide +kernel
theorem dX5_comes_128 : decode cX5_comes 128 = .ok (.iconst 4, 1) := by decide +kernel
theorem dX5_comes_129 : decode cX5_comes 129 = .ok (.idiv, 1) := by decide +kernel
theorem dX5_comes_130 : decode cX5_comes 130 = .ok (.invokestatic 89, 3) := by decide +kernel
theorem dX5_comes_133 : decode cX5_comes 133 = .ok (.ifCond .eq 8, 3) := by decide +kernel
theorem dX5_comes_136 : decode cX5_comes 136 = .ok (.iload 4, 2) := by decide +kernel
theorem dX5_comes_138 : decode cX5_comes 138 = .ok (.goto 4, 3) := by decide +kernel
theorem dX5_comes_141 : decode cX5_comes 141 = .ok (.iconst 0, 1) := by decide +kernel
theorem dX5_comes_142 : decode cX5_comes 142 = .ok (.ior, 1) := by decide +kernel
theorem dX5_comes_143 : decode cX5_comes 143 = .ok (.iastore, 1) := by decide +kernel
theorem dX5_comes_144 : decode cX5_comes 144 = .ok (.aload_n 0, 1) := by decide +kernel
theorem dX5_comes_145 : decode cX5_comes 145 = .ok (.getfield 41, 3) := by decide +kernel
theorem dX5_comes_148 : decode cX5_comes 148 = .ok (.bipush 48, 2) := by decide +kernel
theorem dX5_comes_150 : decode cX5_comes 150 = .ok (.aload_n 0, 1) := by decide +kernel
theorem dX5_comes_151 : decode cX5_comes 151 = .ok (.getfield 59, 3) := by decide +kernel
theorem dX5_comes_154 : decode cX5_comes 154 = .ok (.iload_n 2, 1) := by decide +kernel
theorem dX5_comes_155 : decode cX5_comes 155 = .ok (.iaload, 1) := by decide +kernel
theorem dX5_comes_156 : decode cX5_comes 156 = .ok (.imul, 1) := by decide +kernel
theorem dX5_comes_157 : decode cX5_comes 157 = .ok (.aload_n 0, 1) := by decide +kernel
theorem dX5_comes_158 : decode cX5_comes 158 = .ok (.getfield 65, 3) := by decide +kernel
theorem dX5_comes_161 : decode cX5_comes 161 = .ok (.iload_n 2, 1) := by decide +kernel
theorem dX5_comes_162 : decode cX5_comes 162 = .ok (.iaload, 1) := by decide +kernel
theorem dX5_comes_163 : decode cX5_comes 163 = .ok (.iadd, 1) := by decide +kernel
theorem dX5_comes_164 : decode cX5_comes 164 = .ok (.aload_n 0, 1) := by decide +kernel
theorem dX5_comes_165 : decode cX5_comes 165 = .ok (.getfield 62, 3) := by decide +kernel
theorem dX5_comes_168 : decode cX5_comes 168 = .ok (.iload_n 2, 1) := by decide +kernel
theorem dX5_comes_169 : decode cX5_comes 169 = .ok (.iaload, 1) := by decide +kernel
theorem dX5_comes_170 : decode cX5_comes 170 = .ok (.iastore, 1) := by decide +kernel
theorem dX5_comes_171 : decode cX5_comes 171 = .ok (.aload_n 0, 1) := by decide +kernel
theorem dX5_comes_172 : decode cX5_comes 172 = .ok (.getfield 44, 3) := by decide +kernel
theorem dX5_comes_175 : decode cX5_comes 175 = .ok (.aload_n 0, 1) := by decide +kernel
theorem dX5_comes_176 : decode cX5_comes 176 = .ok (.getfield 59, 3) := by decide +kernel
theorem dX5_comes_179 : decode cX5_comes 179 = .ok (.iload_n 2, 1) := by decide +kernel
theorem dX5_comes_180 : decode cX5_comes 180 = .ok (.iaload, 1) := by decide +kernel
theorem dX5_comes_181 : decode cX5_comes 181 = .ok (.aload_n 0, 1) := by decide +kernel
theorem dX5_comes_182 : decode cX5_comes 182 = .ok (.getfield 62, 3) := by decide +kernel
theorem dX5_comes_185 : decode cX5_comes 185 = .ok (.iload_n 2, 1) := by decide +kernel
theorem dX5_comes_186 : decode cX5_comes 186 = .ok (.iaload, 1) := by decide +kernel
theorem dX5_comes_187 : decode cX5_comes 187 = .ok (.invokestatic 96, 3) := by decide +kernel
theorem dX5_comes_190 : decode cX5_comes 190 = .ok (.dup2, 1) := by decide +kernel
theorem dX5_comes_191 : decode cX5_comes 191 = .ok (.iaload, 1) := by decide +kernel
theorem dX5_comes_192 : decode cX5_comes 192 = .ok (.iconst 1, 1) := by decide +kernel
theorem dX5_comes_193 : decode cX5_comes 193 = .ok (.iadd, 1) := by decide +kernel
theorem dX5_comes_194 : decode cX5_comes 194 = .ok (.iastore, 1) := by decide +kernel
theorem dX5_comes_195 : decode cX5_comes 195 = .ok (.iinc 1 1, 3) := by decide +kernel
theorem dX5_comes_198 : decode cX5_comes 198 = .ok (.iinc 2 1, 3) := by decide +kernel
theorem dX5_comes_201 : decode cX5_comes 201 = .ok (.goto (-176), 3) := by decide +kernel
theorem dX5_comes_204 : decode cX5_comes 204 = .ok (.iload_n 1, 1) := by decide +kernel
theorem dX5_comes_205 : decode cX5_comes 205 = .ok (.ireturn, 1) := by decide +kernel
theorem dX5_drops_0 : decode cX5_drops 0 = .ok (.iconst 0, 1) := by decide +kernel
theorem dX5_drops_1 : decode cX5_drops 1 = .ok (.istore_n 3, 1) := by decide +kernel
theorem dX5_drops_2 : decode cX5_drops 2 = .ok (.iload_n 3, 1) := by decide +kernel
theorem dX5_drops_3 : decode cX5_drops 3 = .ok (.aload_n 0, 1) := by decide +kernel
theorem dX5_drops_4 : decode cX5_drops 4 = .ok (.getfield 72, 3) := by decide +kernel
theorem dX5_drops_7 : decode cX5_drops 7 = .ok (.if_icmp .ge 123, 3) := by decide +kernel
theorem dX5_drops_10 : decode cX5_drops 10 = .ok (.iconst 0, 1) := by decide +kernel
theorem dX5_drops_11 : decode cX5_drops 11 = .ok (.istore 4, 2) := by decide +kernel
theorem dX5_drops_13 : decode cX5_drops 13 = .ok (.iconst 0, 1) := by decide +kernel
theorem dX5_drops_14 : decode cX5_drops 14 = .ok (.istore 5, 2) := by decide +kernel
theorem dX5_drops_16 : decode cX5_drops 16 = .ok (.iload 5, 2) := by decide +kernel
theorem dX5_drops_18 : decode cX5_drops 18 = .ok (.iconst 4, 1) := by decide +kernel
theorem dX5_drops_19 : decode cX5_drops 19 = .ok (.if_icmp .ge 39, 3) := by decide +kernel
theorem dX5_drops_22 : decode cX5_drops 22 = .ok (.iload 4, 2) := by decide +kernel
theorem dX5_drops_24 : decode cX5_drops 24 = .ok (.aload_n 0, 1) := by decide +kernel
theorem dX5_drops_25 : decode cX5_drops 25 = .ok (.getfield 41, 3) := by decide +kernel
theorem dX5_drops_28 : decode cX5_drops 28 = .ok (.bipush 48, 2) := by decide +kernel
theorem dX5_drops_30 : decode cX5_drops 30 = .ok (.iload_n 1, 1) := by decide +kernel
theorem dX5_drops_31 : decode cX5_drops 31 = .ok (.imul, 1) := by decide +kernel
theorem dX5_drops_32 : decode cX5_drops 32 = .ok (.iconst 4, 1) := by decide +kernel
theorem dX5_drops_33 : decode cX5_drops 33 = .ok (.iload_n 2, 1) := by decide +kernel
theorem dX5_drops_34 : decode cX5_drops 34 = .ok (.imul, 1) := by decide +kernel
theorem dX5_drops_35 : decode cX5_drops 35 = .ok (.iadd, 1) := by decide +kernel
theorem dX5_drops_36 : decode cX5_drops 36 = .ok (.iload 5, 2) := by decide +kernel
theorem dX5_drops_38 : decode cX5_drops 38 = .ok (.iadd, 1) := by decide +kernel
theorem dX5_drops_39 : decode cX5_drops 39 = .ok (.iaload, 1) := by decide +kernel
theorem dX5_drops_40 : decode cX5_drops 40 = .ok (.iload_n 3, 1) := by decide +kernel
theorem dX5_drops_41 : decode cX5_drops 41 = .ok (.if_icmp .ne 7, 3) := by decide +kernel
theorem dX5_drops_44 : decode cX5_drops 44 = .ok (.iconst 1, 1) := by decide +kernel
theorem dX5_drops_45 : decode cX5_drops 45 = .ok (.goto 4, 3) := by decide +kernel
theorem dX5_drops_48 : decode cX5_drops 48 = .ok (.iconst 0, 1) := by decide +kernel
theorem dX5_drops_49 : decode cX5_drops 49 = .ok (.iadd, 1) := by decide +kernel
theorem dX5_drops_50 : decode cX5_drops 50 = .ok (.istore 4, 2) := by decide +kernel
theorem dX5_drops_52 : decode cX5_drops 52 = .ok (.iinc 5 1, 3) := by decide +kernel
theorem dX5_drops_55 : decode cX5_drops 55 = .ok (.goto (-39), 3) := by decide +kernel
theorem dX5_drops_58 : decode cX5_drops 58 = .ok (.iload_n 1, 1) := by decide +kernel
theorem dX5_drops_59 : decode cX5_drops 59 = .ok (.iload_n 3, 1) := by decide +kernel
theorem dX5_drops_60 : decode cX5_drops 60 = .ok (.invokestatic 96, 3) := by decide +kernel
theorem dX5_drops_63 : decode cX5_drops 63 = .ok (.istore 5, 2) := by decide +kernel
theorem dX5_drops_65 : decode cX5_drops 65 = .ok (.aload_n 0, 1) := by decide +kernel
theorem dX5_drops_66 : decode cX5_drops 66 = .ok (.getfield 47, 3) := by decide +kernel
theorem dX5_drops_69 : decode cX5_drops 69 = .ok (.iload 5, 2) := by decide +kernel
theorem dX5_drops_71 : decode cX5_drops 71 = .ok (.dup2, 1) := by decide +kernel
theorem dX5_drops_72 : decode cX5_drops 72 = .ok (.iaload, 1) := by decide +kernel
theorem dX5_drops_73 : decode cX5_drops 73 = .ok (.iload 4, 2) := by decide +kernel
theorem dX5_drops_75 : decode cX5_drops 75 = .ok (.ifCond .le 7, 3) := by decide +kernel
theorem dX5_drops_78 : decode cX5_drops 78 = .ok (.iconst 1, 1) := by decide +kernel
theorem dX5_drops_79 : decode cX5_drops 79 = .ok (.goto 4, 3) := by decide +kernel
theorem dX5_drops_82 : decode cX5_drops 82 = .ok (.iconst 0, 1) := by decide +kernel
theorem dX5_drops_83 : decode cX5_drops 83 = .ok (.iadd, 1) := by decide +kernel
theorem dX5_drops_84 : decode cX5_drops 84 = .ok (.iastore, 1) := by decide +kernel
theorem dX5_drops_85 : decode cX5_drops 85 = .ok (.aload_n 0, 1) := by decide +kernel
theorem dX5_drops_86 : decode cX5_drops 86 = .ok (.getfield 50, 3) := by decide +kernel
theorem dX5_drops_89 : decode cX5_drops 89 = .ok (.iload 5, 2) := by decide +kernel
theorem dX5_drops_91 : decode cX5_drops 91 = .ok (.aload_n 0, 1) := by decide +kernel
theorem dX5_drops_92 : decode cX5_drops 92 = .ok (.getfield 50, 3) := by decide +kernel
theorem dX5_drops_95 : decode cX5_drops 95 = .ok (.iload 5, 2) := by decide +kernel
theorem dX5_drops_97 : decode cX5_drops 97 = .ok (.baload, 1) := by decide +kernel
theorem dX5_drops_98 : decode cX5_drops 98 = .ok (.ifCond .ne 20, 3) := by decide +kernel
theorem dX5_drops_101 : decode cX5_drops 101 = .ok (.iload 4, 2) := by decide +kernel
theorem dX5_drops_103 : decode cX5_drops 103 = .ok (.iconst 4, 1) := by decide +kernel
theorem dX5_drops_104 : decode cX5_drops 104 = .ok (.if_icmp .eq 14, 3) := by decide +kernel
theorem dX5_drops_107 : decode cX5_drops 107 = .ok (.aload_n 0, 1) := by decide +kernel
theorem dX5_drops_108 : decode cX5_drops 108 = .ok (.getfield 47, 3) := by decide +kernel
theorem dX5_drops_111 : decode cX5_drops 111 = .ok (.iload 5, 2) := by decide +kernel
theorem dX5_drops_113 : decode cX5_drops 113 = .ok (.iaload, 1) := by decide +kernel
theorem dX5_drops_114 : decode cX5_drops 114 = .ok (.iconst 3, 1) := by decide +kernel
theorem dX5_drops_115 : decode cX5_drops 115 = .ok (.if_icmp .lt 7, 3) := by decide +kernel
theorem dX5_drops_118 : decode cX5_drops 118 = .ok (.iconst 1, 1) := by decide +kernel
theorem dX5_drops_119 : decode cX5_drops 119 = .ok (.goto 4, 3) := by decide +kernel
theorem dX5_drops_122 : decode cX5_drops 122 = .ok (.iconst 0, 1) := by decide +kernel
theorem dX5_drops_123 : decode cX5_drops 123 = .ok (.bastore, 1) := by decide +kernel
theorem dX5_drops_124 : decode cX5_drops 124 = .ok (.iinc 3 1, 3) := by decide +kernel
theorem dX5_drops_127 : decode cX5_drops 127 = .ok (.goto (-125), 3) := by decide +kernel
theorem dX5_drops_130 : decode cX5_drops 130 = .ok (.aload_n 0, 1) := by decide +kernel
theorem dX5_drops_131 : decode cX5_drops 131 = .ok (.getfield 32, 3) := by decide +kernel
theorem dX5_drops_134 : decode cX5_drops 134 = .ok (.iload_n 1, 1) := by decide +kernel
theorem dX5_drops_135 : decode cX5_drops 135 = .ok (.iload_n 2, 1) := by decide +kernel
theorem dX5_drops_136 : decode cX5_drops 136 = .ok (.invokestatic 115, 3) := by decide +kernel
theorem dX5_drops_139 : decode cX5_drops 139 = .ok (.iconst 0, 1) := by decide +kernel
theorem dX5_drops_140 : decode cX5_drops 140 = .ok (.iastore, 1) := by decide +kernel
theorem dX5_drops_141 : decode cX5_drops 141 = .ok (.aload_n 0, 1) := by decide +kernel
theorem dX5_drops_142 : decode cX5_drops 142 = .ok (.getfield 35, 3) := by decide +kernel
theorem dX5_drops_145 : decode cX5_drops 145 = .ok (.iload_n 1, 1) := by decide +kernel
theorem dX5_drops_146 : decode cX5_drops 146 = .ok (.iload_n 2, 1) := by decide +kernel
theorem dX5_drops_147 : decode cX5_drops 147 = .ok (.invokestatic 115, 3) := by decide +kernel
theorem dX5_drops_150 : decode cX5_drops 150 = .ok (.iconst 0, 1) := by decide +kernel
theorem dX5_drops_151 : decode cX5_drops 151 = .ok (.iastore, 1) := by decide +kernel
theorem dX5_drops_152 : decode cX5_drops 152 = .ok (.return_, 1) := by decide +kernel
theorem dX5_ends_0 : decode cX5_ends 0 = .ok (.iconst 0, 1) := by decide +kernel
theorem dX5_ends_1 : decode cX5_ends 1 = .ok (.istore_n 1, 1) := by decide +kernel
theorem dX5_ends_2 : decode cX5_ends 2 = .ok (.iload_n 1, 1) := by decide +kernel
theorem dX5_ends_3 : decode cX5_ends 3 = .ok (.aload_n 0, 1) := by decide +kernel
theorem dX5_ends_4 : decode cX5_ends 4 = .ok (.getfield 72, 3) := by decide +kernel
theorem dX5_ends_7 : decode cX5_ends 7 = .ok (.if_icmp .ge 88, 3) := by decide +kernel
theorem dX5_ends_10 : decode cX5_ends 10 = .ok (.iconst 0, 1) := by decide +kernel
theorem dX5_ends_11 : decode cX5_ends 11 = .ok (.istore_n 2, 1) := by decide +kernel
theorem dX5_ends_12 : decode cX5_ends 12 = .ok (.iload_n 2, 1) := by decide +kernel
theorem dX5_ends_13 : decode cX5_ends 13 = .ok (.bipush 12, 2) := by decide +kernel
theorem dX5_ends_15 : decode cX5_ends 15 = .ok (.if_icmp .ge 74, 3) := by decide +kernel
theorem dX5_ends_18 : decode cX5_ends 18 = .ok (.iload_n 1, 1) := by decide +kernel
theorem dX5_ends_19 : decode cX5_ends 19 = .ok (.iload_n 2, 1) := by decide +kernel
theorem dX5_ends_20 : decode cX5_ends 20 = .ok (.invokestatic 115, 3) := by decide +kernel
theorem dX5_ends_23 : decode cX5_ends 23 = .ok (.istore_n 3, 1) := by decide +kernel
theorem dX5_ends_24 : decode cX5_ends 24 = .ok (.aload_n 0, 1) := by decide +kernel
theorem dX5_ends_25 : decode cX5_ends 25 = .ok (.getfield 32, 3) := by decide +kernel
theorem dX5_ends_28 : decode cX5_ends 28 = .ok (.iload_n 3, 1) := by decide +kernel
theorem dX5_ends_29 : decode cX5_ends 29 = .ok (.iaload, 1) := by decide +kernel
theorem dX5_ends_30 : decode cX5_ends 30 = .ok (.bipush 15, 2) := by decide +kernel
theorem dX5_ends_32 : decode cX5_ends 32 = .ok (.if_icmp .ne 21, 3) := by decide +kernel
theorem dX5_ends_35 : decode cX5_ends 35 = .ok (.aload_n 0, 1) := by decide +kernel
theorem dX5_ends_36 : decode cX5_ends 36 = .ok (.getfield 35, 3) := by decide +kernel
theorem dX5_ends_39 : decode cX5_ends 39 = .ok (.iload_n 3, 1) := by decide +kernel
theorem dX5_ends_40 : decode cX5_ends 40 = .ok (.iaload, 1) := by decide +kernel
theorem dX5_ends_41 : decode cX5_ends 41 = .ok (.ifCond .eq 12, 3) := by decide +kernel
theorem dX5_ends_44 : decode cX5_ends 44 = .ok (.aload_n 0, 1) := by decide +kernel
theorem dX5_ends_45 : decode cX5_ends 45 = .ok (.iload_n 1, 1) := by decide +kernel
theorem dX5_ends_46 : decode cX5_ends 46 = .ok (.iload_n 2, 1) := by decide +kernel
theorem dX5_ends_47 : decode cX5_ends 47 = .ok (.invokevirtual 134, 3) := by decide +kernel
theorem dX5_ends_50 : decode cX5_ends 50 = .ok (.goto 33, 3) := by decide +kernel
theorem dX5_ends_53 : decode cX5_ends 53 = .ok (.aload_n 0, 1) := by decide +kernel
theorem dX5_ends_54 : decode cX5_ends 54 = .ok (.getfield 32, 3) := by decide +kernel
theorem dX5_ends_57 : decode cX5_ends 57 = .ok (.iload_n 3, 1) := by decide +kernel
theorem dX5_ends_58 : decode cX5_ends 58 = .ok (.iaload, 1) := by decide +kernel
theorem dX5_ends_59 : decode cX5_ends 59 = .ok (.bipush 15, 2) := by decide +kernel
theorem dX5_ends_61 : decode cX5_ends 61 = .ok (.if_icmp .ne 22, 3) := by decide +kernel
theorem dX5_ends_64 : decode cX5_ends 64 = .ok (.aload_n 0, 1) := by decide +kernel
theorem dX5_ends_65 : decode cX5_ends 65 = .ok (.getfield 17, 3) := by decide +kernel
theorem dX5_ends_68 : decode cX5_ends 68 = .ok (.iload_n 1, 1) := by decide +kernel
theorem dX5_ends_69 : decode cX5_ends 69 = .ok (.dup2, 1) := by decide +kernel
theorem dX5_ends_70 : decode cX5_ends 70 = .ok (.iaload, 1) := by decide +kernel
theorem dX5_ends_71 : decode cX5_ends 71 = .ok (.iconst 1, 1) := by decide +kernel
theorem dX5_ends_72 : decode cX5_ends 72 = .ok (.iload_n 2, 1) := by decide +kernel
theorem dX5_ends_73 : decode cX5_ends 73 = .ok (.ishl, 1) := by decide +kernel
theorem dX5_ends_74 : decode cX5_ends 74 = .ok (.ior, 1) := by decide +kernel
theorem dX5_ends_75 : decode cX5_ends 75 = .ok (.iastore, 1) := by decide +kernel
theorem dX5_ends_76 : decode cX5_ends 76 = .ok (.aload_n 0, 1) := by decide +kernel
theorem dX5_ends_77 : decode cX5_ends 77 = .ok (.getfield 32, 3) := by decide +kernel
theorem dX5_ends_80 : decode cX5_ends 80 = .ok (.iload_n 3, 1) := by decide +kernel
theorem dX5_ends_81 : decode cX5_ends 81 = .ok (.iconst 0, 1) := by decide +kernel
theorem dX5_ends_82 : decode cX5_ends 82 = .ok (.iastore, 1) := by decide +kernel
theorem dX5_ends_83 : decode cX5_ends 83 = .ok (.iinc 2 1, 3) := by decide +kernel
theorem dX5_ends_86 : decode cX5_ends 86 = .ok (.goto (-74), 3) := by decide +kernel
theorem dX5_ends_89 : decode cX5_ends 89 = .ok (.iinc 1 1, 3) := by decide +kernel
theorem dX5_ends_92 : decode cX5_ends 92 = .ok (.goto (-90), 3) := by decide +kernel
theorem dX5_ends_95 : decode cX5_ends 95 = .ok (.return_, 1) := by decide +kernel
theorem dX5_run_0 : decode cX5_run 0 = .ok (.aload_n 0, 1) := by decide +kernel
theorem dX5_run_1 : decode cX5_run 1 = .ok (.iload_n 1, 1) := by decide +kernel
theorem dX5_run_2 : decode cX5_run 2 = .ok (.iconst 1, 1) := by decide +kernel
theorem dX5_run_3 : decode cX5_run 3 = .ok (.if_icmp .lt 9, 3) := by decide +kernel
theorem dX5_run_6 : decode cX5_run 6 = .ok (.iload_n 1, 1) := by decide +kernel
theorem dX5_run_7 : decode cX5_run 7 = .ok (.bipush 20, 2) := by decide +kernel
theorem dX5_run_9 : decode cX5_run 9 = .ok (.if_icmp .le 7, 3) := by decide +kernel
theorem dX5_run_12 : decode cX5_run 12 = .ok (.iconst 1, 1) := by decide +kernel
theorem dX5_run_13 : decode cX5_run 13 = .ok (.goto 20, 3) := by decide +kernel
theorem dX5_run_16 : decode cX5_run 16 = .ok (.aload_n 0, 1) := by decide +kernel
theorem dX5_run_17 : decode cX5_run 17 = .ok (.getfield 109, 3) := by decide +kernel
theorem dX5_run_20 : decode cX5_run 20 = .ok (.iload_n 1, 1) := by decide +kernel
theorem dX5_run_21 : decode cX5_run 21 = .ok (.iadd, 1) := by decide +kernel
theorem dX5_run_22 : decode cX5_run 22 = .ok (.sipush 200, 3) := by decide +kernel
theorem dX5_run_25 : decode cX5_run 25 = .ok (.if_icmp .le 7, 3) := by decide +kernel
theorem dX5_run_28 : decode cX5_run 28 = .ok (.iconst 2, 1) := by decide +kernel
theorem dX5_run_29 : decode cX5_run 29 = .ok (.goto 4, 3) := by decide +kernel
theorem dX5_run_32 : decode cX5_run 32 = .ok (.iconst 0, 1) := by decide +kernel
theorem dX5_run_33 : decode cX5_run 33 = .ok (.invokevirtual 75, 3) := by decide +kernel
theorem dX5_run_36 : decode cX5_run 36 = .ok (.ifCond .ne 5, 3) := by decide +kernel
theorem dX5_run_39 : decode cX5_run 39 = .ok (.iconst 0, 1) := by decide +kernel
theorem dX5_run_40 : decode cX5_run 40 = .ok (.ireturn, 1) := by decide +kernel
theorem dX5_run_41 : decode cX5_run 41 = .ok (.iconst 0, 1) := by decide +kernel
theorem dX5_run_42 : decode cX5_run 42 = .ok (.istore_n 2, 1) := by decide +kernel
theorem dX5_run_43 : decode cX5_run 43 = .ok (.iconst 0, 1) := by decide +kernel
theorem dX5_run_44 : decode cX5_run 44 = .ok (.istore_n 3, 1) := by decide +kernel
theorem dX5_run_45 : decode cX5_run 45 = .ok (.iload_n 3, 1) := by decide +kernel
theorem dX5_run_46 : decode cX5_run 46 = .ok (.iload_n 1, 1) := by decide +kernel
theorem dX5_run_47 : decode cX5_run 47 = .ok (.if_icmp .ge 38, 3) := by decide +kernel
theorem dX5_run_50 : decode cX5_run 50 = .ok (.aload_n 0, 1) := by decide +kernel
theorem dX5_run_51 : decode cX5_run 51 = .ok (.invokevirtual 138, 3) := by decide +kernel
theorem dX5_run_54 : decode cX5_run 54 = .ok (.aload_n 0, 1) := by decide +kernel
theorem dX5_run_55 : decode cX5_run 55 = .ok (.invokevirtual 141, 3) := by decide +kernel
theorem dX5_run_58 : decode cX5_run 58 = .ok (.iload_n 2, 1) := by decide +kernel
theorem dX5_run_59 : decode cX5_run 59 = .ok (.aload_n 0, 1) := by decide +kernel
theorem dX5_run_60 : decode cX5_run 60 = .ok (.invokevirtual 144, 3) := by decide +kernel
theorem dX5_run_63 : decode cX5_run 63 = .ok (.iadd, 1) := by decide +kernel
theorem dX5_run_64 : decode cX5_run 64 = .ok (.istore_n 2, 1) := by decide +kernel
theorem dX5_run_65 : decode cX5_run 65 = .ok (.aload_n 0, 1) := by decide +kernel
theorem dX5_run_66 : decode cX5_run 66 = .ok (.invokevirtual 148, 3) := by decide +kernel
theorem dX5_run_69 : decode cX5_run 69 = .ok (.aload_n 0, 1) := by decide +kernel
theorem dX5_run_70 : decode cX5_run 70 = .ok (.dup, 1) := by decide +kernel
theorem dX5_run_71 : decode cX5_run 71 = .ok (.getfield 109, 3) := by decide +kernel
theorem dX5_run_74 : decode cX5_run 74 = .ok (.iconst 1, 1) := by decide +kernel
theorem dX5_run_75 : decode cX5_run 75 = .ok (.iadd, 1) := by decide +kernel
theorem dX5_run_76 : decode cX5_run 76 = .ok (.putfield 109, 3) := by decide +kernel
theorem dX5_run_79 : decode cX5_run 79 = .ok (.iinc 3 1, 3) := by decide +kernel
theorem dX5_run_82 : decode cX5_run 82 = .ok (.goto (-37), 3) := by decide +kernel
theorem dX5_run_85 : decode cX5_run 85 = .ok (.iload_n 2, 1) := by decide +kernel
theorem dX5_run_86 : decode cX5_run 86 = .ok (.ireturn, 1) := by decide +kernel
theorem dX5_rounds_0 : decode cX5_rounds 0 = .ok (.aload_n 0, 1) := by decide +kernel
theorem dX5_rounds_1 : decode cX5_rounds 1 = .ok (.iconst 0, 1) := by decide +kernel
theorem dX5_rounds_2 : decode cX5_rounds 2 = .ok (.putfield 68, 3) := by decide +kernel
theorem dX5_rounds_5 : decode cX5_rounds 5 = .ok (.aload_n 0, 1) := by decide +kernel
theorem dX5_rounds_6 : decode cX5_rounds 6 = .ok (.getfield 109, 3) := by decide +kernel
theorem dX5_rounds_9 : decode cX5_rounds 9 = .ok (.ireturn, 1) := by decide +kernel
theorem dX5_peers_0 : decode cX5_peers 0 = .ok (.aload_n 0, 1) := by decide +kernel
theorem dX5_peers_1 : decode cX5_peers 1 = .ok (.iconst 0, 1) := by decide +kernel
theorem dX5_peers_2 : decode cX5_peers 2 = .ok (.putfield 68, 3) := by decide +kernel
theorem dX5_peers_5 : decode cX5_peers 5 = .ok (.iconst 0, 1) := by decide +kernel
theorem dX5_peers_6 : decode cX5_peers 6 = .ok (.istore_n 1, 1) := by decide +kernel
theorem dX5_peers_7 : decode cX5_peers 7 = .ok (.iconst 0, 1) := by decide +kernel
theorem dX5_peers_8 : decode cX5_peers 8 = .ok (.istore_n 2, 1) := by decide +kernel
theorem dX5_peers_9 : decode cX5_peers 9 = .ok (.iload_n 2, 1) := by decide +kernel
theorem dX5_peers_10 : decode cX5_peers 10 = .ok (.aload_n 0, 1) := by decide +kernel
theorem dX5_peers_11 : decode cX5_peers 11 = .ok (.getfield 72, 3) := by decide +kernel
theorem dX5_peers_14 : decode cX5_peers 14 = .ok (.if_icmp .ge 28, 3) := by decide +kernel
theorem dX5_peers_17 : decode cX5_peers 17 = .ok (.iload_n 1, 1) := by decide +kernel
theorem dX5_peers_18 : decode cX5_peers 18 = .ok (.aload_n 0, 1) := by decide +kernel
theorem dX5_peers_19 : decode cX5_peers 19 = .ok (.getfield 13, 3) := by decide +kernel
theorem dX5_peers_22 : decode cX5_peers 22 = .ok (.iload_n 2, 1) := by decide +kernel
theorem dX5_peers_23 : decode cX5_peers 23 = .ok (.baload, 1) := by decide +kernel
theorem dX5_peers_24 : decode cX5_peers 24 = .ok (.ifCond .eq 9, 3) := by decide +kernel
theorem dX5_peers_27 : decode cX5_peers 27 = .ok (.iconst 1, 1) := by decide +kernel
theorem dX5_peers_28 : decode cX5_peers 28 = .ok (.iload_n 2, 1) := by decide +kernel
theorem dX5_peers_29 : decode cX5_peers 29 = .ok (.ishl, 1) := by decide +kernel
theorem dX5_peers_30 : decode cX5_peers 30 = .ok (.goto 4, 3) := by decide +kernel
theorem dX5_peers_33 : decode cX5_peers 33 = .ok (.iconst 0, 1) := by decide +kernel
theorem dX5_peers_34 : decode cX5_peers 34 = .ok (.ior, 1) := by decide +kernel
theorem dX5_peers_35 : decode cX5_peers 35 = .ok (.istore_n 1, 1) := by decide +kernel
theorem dX5_peers_36 : decode cX5_peers 36 = .ok (.iinc 2 1, 3) := by decide +kernel
theorem dX5_peers_39 : decode cX5_peers 39 = .ok (.goto (-30), 3) := by decide +kernel
theorem dX5_peers_42 : decode cX5_peers 42 = .ok (.iload_n 1, 1) := by decide +kernel
theorem dX5_peers_43 : decode cX5_peers 43 = .ok (.ireturn, 1) := by decide +kernel
theorem dX5_holds_0 : decode cX5_holds 0 = .ok (.aload_n 0, 1) := by decide +kernel
theorem dX5_holds_1 : decode cX5_holds 1 = .ok (.aload_n 0, 1) := by decide +kernel
theorem dX5_holds_2 : decode cX5_holds 2 = .ok (.iload_n 1, 1) := by decide +kernel
theorem dX5_holds_3 : decode cX5_holds 3 = .ok (.invokevirtual 79, 3) := by decide +kernel
theorem dX5_holds_6 : decode cX5_holds 6 = .ok (.ifCond .eq 7, 3) := by decide +kernel
theorem dX5_holds_9 : decode cX5_holds 9 = .ok (.iconst 0, 1) := by decide +kernel
theorem dX5_holds_10 : decode cX5_holds 10 = .ok (.goto 4, 3) := by decide +kernel
theorem dX5_holds_13 : decode cX5_holds 13 = .ok (.iconst 1, 1) := by decide +kernel
theorem dX5_holds_14 : decode cX5_holds 14 = .ok (.invokevirtual 75, 3) := by decide +kernel
theorem dX5_holds_17 : decode cX5_holds 17 = .ok (.ifCond .eq 12, 3) := by decide +kernel
theorem dX5_holds_20 : decode cX5_holds 20 = .ok (.aload_n 0, 1) := by decide +kernel
theorem dX5_holds_21 : decode cX5_holds 21 = .ok (.getfield 17, 3) := by decide +kernel
theorem dX5_holds_24 : decode cX5_holds 24 = .ok (.iload_n 1, 1) := by decide +kernel
theorem dX5_holds_25 : decode cX5_holds 25 = .ok (.iaload, 1) := by decide +kernel
theorem dX5_holds_26 : decode cX5_holds 26 = .ok (.goto 4, 3) := by decide +kernel
theorem dX5_holds_29 : decode cX5_holds 29 = .ok (.iconst 0, 1) := by decide +kernel
theorem dX5_holds_30 : decode cX5_holds 30 = .ok (.ireturn, 1) := by decide +kernel
theorem dX5_holdsByLog_0 : decode cX5_holdsByLog 0 = .ok (.aload_n 0, 1) := by decide +kernel
theorem dX5_holdsByLog_1 : decode cX5_holdsByLog 1 = .ok (.aload_n 0, 1) := by decide +kernel
theorem dX5_holdsByLog_2 : decode cX5_holdsByLog 2 = .ok (.iload_n 1, 1) := by decide +kernel
theorem dX5_holdsByLog_3 : decode cX5_holdsByLog 3 = .ok (.invokevirtual 79, 3) := by decide +kernel
theorem dX5_holdsByLog_6 : decode cX5_holdsByLog 6 = .ok (.ifCond .eq 7, 3) := by decide +kernel
theorem dX5_holdsByLog_9 : decode cX5_holdsByLog 9 = .ok (.iconst 0, 1) := by decide +kernel
theorem dX5_holdsByLog_10 : decode cX5_holdsByLog 10 = .ok (.goto 4, 3) := by decide +kernel
theorem dX5_holdsByLog_13 : decode cX5_holdsByLog 13 = .ok (.iconst 1, 1) := by decide +kernel
theorem dX5_holdsByLog_14 : decode cX5_holdsByLog 14 = .ok (.invokevirtual 75, 3) := by decide +kernel
theorem dX5_holdsByLog_17 : decode cX5_holdsByLog 17 = .ok (.ifCond .eq 12, 3) := by decide +kernel
theorem dX5_holdsByLog_20 : decode cX5_holdsByLog 20 = .ok (.aload_n 0, 1) := by decide +kernel
theorem dX5_holdsByLog_21 : decode cX5_holdsByLog 21 = .ok (.getfield 17, 3) := by decide +kernel
theorem dX5_holdsByLog_24 : decode cX5_holdsByLog 24 = .ok (.iload_n 1, 1) := by decide +kernel
theorem dX5_holdsByLog_25 : decode cX5_holdsByLog 25 = .ok (.iaload, 1) := by decide +kernel
theorem dX5_holdsByLog_26 : decode cX5_holdsByLog 26 = .ok (.goto 4, 3) := by decide +kernel
theorem dX5_holdsByLog_29 : decode cX5_holdsByLog 29 = .ok (.iconst 0, 1) := by decide +kernel
theorem dX5_holdsByLog_30 : decode cX5_holdsByLog 30 = .ok (.ireturn, 1) := by decide +kernel
theorem dX5_blocks_0 : decode cX5_blocks 0 = .ok (.aload_n 0, 1) := by decide +kernel
theorem dX5_blocks_1 : decode cX5_blocks 1 = .ok (.aload_n 0, 1) := by decide +kernel
theorem dX5_blocks_2 : decode cX5_blocks 2 = .ok (.iload_n 1, 1) := by decide +kernel
theorem dX5_blocks_3 : decode cX5_blocks 3 = .ok (.invokevirtual 79, 3) := by decide +kernel
theorem dX5_blocks_6 : decode cX5_blocks 6 = .ok (.ifCond .eq 14, 3) := by decide +kernel
theorem dX5_blocks_9 : decode cX5_blocks 9 = .ok (.iload_n 2, 1) := by decide +kernel
theorem dX5_blocks_10 : decode cX5_blocks 10 = .ok (.invokestatic 86, 3) := by decide +kernel
theorem dX5_blocks_13 : decode cX5_blocks 13 = .ok (.ifCond .eq 7, 3) := by decide +kernel
theorem dX5_blocks_16 : decode cX5_blocks 16 = .ok (.iconst 0, 1) := by decide +kernel
theorem dX5_blocks_17 : decode cX5_blocks 17 = .ok (.goto 4, 3) := by decide +kernel
theorem dX5_blocks_20 : decode cX5_blocks 20 = .ok (.iconst 1, 1) := by decide +kernel
theorem dX5_blocks_21 : decode cX5_blocks 21 = .ok (.invokevirtual 75, 3) := by decide +kernel
theorem dX5_blocks_24 : decode cX5_blocks 24 = .ok (.ifCond .ne 5, 3) := by decide +kernel
theorem dX5_blocks_27 : decode cX5_blocks 27 = .ok (.iconst 0, 1) := by decide +kernel
theorem dX5_blocks_28 : decode cX5_blocks 28 = .ok (.ireturn, 1) := by decide +kernel
theorem dX5_blocks_29 : decode cX5_blocks 29 = .ok (.aload_n 0, 1) := by decide +kernel
theorem dX5_blocks_30 : decode cX5_blocks 30 = .ok (.getfield 17, 3) := by decide +kernel
theorem dX5_blocks_33 : decode cX5_blocks 33 = .ok (.iload_n 1, 1) := by decide +kernel
theorem dX5_blocks_34 : decode cX5_blocks 34 = .ok (.iaload, 1) := by decide +kernel
theorem dX5_blocks_35 : decode cX5_blocks 35 = .ok (.iload_n 2, 1) := by decide +kernel
theorem dX5_blocks_36 : decode cX5_blocks 36 = .ok (.invokestatic 89, 3) := by decide +kernel
theorem dX5_blocks_39 : decode cX5_blocks 39 = .ok (.ifCond .eq 8, 3) := by decide +kernel
theorem dX5_blocks_42 : decode cX5_blocks 42 = .ok (.bipush 15, 2) := by decide +kernel
theorem dX5_blocks_44 : decode cX5_blocks 44 = .ok (.goto 13, 3) := by decide +kernel
theorem dX5_blocks_47 : decode cX5_blocks 47 = .ok (.aload_n 0, 1) := by decide +kernel
theorem dX5_blocks_48 : decode cX5_blocks 48 = .ok (.getfield 32, 3) := by decide +kernel
theorem dX5_blocks_51 : decode cX5_blocks 51 = .ok (.iload_n 1, 1) := by decide +kernel
theorem dX5_blocks_52 : decode cX5_blocks 52 = .ok (.iload_n 2, 1) := by decide +kernel
theorem dX5_blocks_53 : decode cX5_blocks 53 = .ok (.invokestatic 115, 3) := by decide +kernel
theorem dX5_blocks_56 : decode cX5_blocks 56 = .ok (.iaload, 1) := by decide +kernel
theorem dX5_blocks_57 : decode cX5_blocks 57 = .ok (.ireturn, 1) := by decide +kernel
theorem dX5_holders_0 : decode cX5_holders 0 = .ok (.aload_n 0, 1) := by decide +kernel
theorem dX5_holders_1 : decode cX5_holders 1 = .ok (.iload_n 1, 1) := by decide +kernel
theorem dX5_holders_2 : decode cX5_holders 2 = .ok (.invokestatic 86, 3) := by decide +kernel
theorem dX5_holders_5 : decode cX5_holders 5 = .ok (.ifCond .eq 7, 3) := by decide +kernel
theorem dX5_holders_8 : decode cX5_holders 8 = .ok (.iconst 0, 1) := by decide +kernel
theorem dX5_holders_9 : decode cX5_holders 9 = .ok (.goto 4, 3) := by decide +kernel
theorem dX5_holders_12 : decode cX5_holders 12 = .ok (.iconst 1, 1) := by decide +kernel
theorem dX5_holders_13 : decode cX5_holders 13 = .ok (.invokevirtual 75, 3) := by decide +kernel
theorem dX5_holders_16 : decode cX5_holders 16 = .ok (.ifCond .eq 11, 3) := by decide +kernel
theorem dX5_holders_19 : decode cX5_holders 19 = .ok (.aload_n 0, 1) := by decide +kernel
theorem dX5_holders_20 : decode cX5_holders 20 = .ok (.iload_n 1, 1) := by decide +kernel
theorem dX5_holders_21 : decode cX5_holders 21 = .ok (.invokevirtual 93, 3) := by decide +kernel
theorem dX5_holders_24 : decode cX5_holders 24 = .ok (.goto 4, 3) := by decide +kernel
theorem dX5_holders_27 : decode cX5_holders 27 = .ok (.iconst 0, 1) := by decide +kernel
theorem dX5_holders_28 : decode cX5_holders 28 = .ok (.ireturn, 1) := by decide +kernel
theorem dX5_arePeers_0 : decode cX5_arePeers 0 = .ok (.aload_n 0, 1) := by decide +kernel
theorem dX5_arePeers_1 : decode cX5_arePeers 1 = .ok (.aload_n 0, 1) := by decide +kernel
theorem dX5_arePeers_2 : decode cX5_arePeers 2 = .ok (.iload_n 1, 1) := by decide +kernel
theorem dX5_arePeers_3 : decode cX5_arePeers 3 = .ok (.invokevirtual 79, 3) := by decide +kernel
theorem dX5_arePeers_6 : decode cX5_arePeers 6 = .ok (.ifCond .eq 15, 3) := by decide +kernel
theorem dX5_arePeers_9 : decode cX5_arePeers 9 = .ok (.aload_n 0, 1) := by decide +kernel
theorem dX5_arePeers_10 : decode cX5_arePeers 10 = .ok (.iload_n 2, 1) := by decide +kernel
theorem dX5_arePeers_11 : decode cX5_arePeers 11 = .ok (.invokevirtual 79, 3) := by decide +kernel
theorem dX5_arePeers_14 : decode cX5_arePeers 14 = .ok (.ifCond .eq 7, 3) := by decide +kernel
theorem dX5_arePeers_17 : decode cX5_arePeers 17 = .ok (.iconst 0, 1) := by decide +kernel
theorem dX5_arePeers_18 : decode cX5_arePeers 18 = .ok (.goto 4, 3) := by decide +kernel
theorem dX5_arePeers_21 : decode cX5_arePeers 21 = .ok (.iconst 1, 1) := by decide +kernel
theorem dX5_arePeers_22 : decode cX5_arePeers 22 = .ok (.invokevirtual 75, 3) := by decide +kernel
theorem dX5_arePeers_25 : decode cX5_arePeers 25 = .ok (.ireturn, 1) := by decide +kernel
theorem dX5_shown_0 : decode cX5_shown 0 = .ok (.aload_n 0, 1) := by decide +kernel
theorem dX5_shown_1 : decode cX5_shown 1 = .ok (.iload_n 1, 1) := by decide +kernel
theorem dX5_shown_2 : decode cX5_shown 2 = .ok (.iload_n 2, 1) := by decide +kernel
theorem dX5_shown_3 : decode cX5_shown 3 = .ok (.invokevirtual 151, 3) := by decide +kernel
theorem dX5_shown_6 : decode cX5_shown 6 = .ok (.ifCond .eq 12, 3) := by decide +kernel
theorem dX5_shown_9 : decode cX5_shown 9 = .ok (.aload_n 0, 1) := by decide +kernel
theorem dX5_shown_10 : decode cX5_shown 10 = .ok (.iload_n 1, 1) := by decide +kernel
theorem dX5_shown_11 : decode cX5_shown 11 = .ok (.iload_n 2, 1) := by decide +kernel
theorem dX5_shown_12 : decode cX5_shown 12 = .ok (.invokevirtual 100, 3) := by decide +kernel
theorem dX5_shown_15 : decode cX5_shown 15 = .ok (.goto 4, 3) := by decide +kernel
theorem dX5_shown_18 : decode cX5_shown 18 = .ok (.iconst 0, 1) := by decide +kernel
theorem dX5_shown_19 : decode cX5_shown 19 = .ok (.ireturn, 1) := by decide +kernel
theorem dX5_chosen_0 : decode cX5_chosen 0 = .ok (.aload_n 0, 1) := by decide +kernel
theorem dX5_chosen_1 : decode cX5_chosen 1 = .ok (.aload_n 0, 1) := by decide +kernel
theorem dX5_chosen_2 : decode cX5_chosen 2 = .ok (.iload_n 1, 1) := by decide +kernel
theorem dX5_chosen_3 : decode cX5_chosen 3 = .ok (.invokevirtual 79, 3) := by decide +kernel
theorem dX5_chosen_6 : decode cX5_chosen 6 = .ok (.ifCond .eq 7, 3) := by decide +kernel
theorem dX5_chosen_9 : decode cX5_chosen 9 = .ok (.iconst 0, 1) := by decide +kernel
theorem dX5_chosen_10 : decode cX5_chosen 10 = .ok (.goto 4, 3) := by decide +kernel
theorem dX5_chosen_13 : decode cX5_chosen 13 = .ok (.iconst 1, 1) := by decide +kernel
theorem dX5_chosen_14 : decode cX5_chosen 14 = .ok (.invokevirtual 75, 3) := by decide +kernel
theorem dX5_chosen_17 : decode cX5_chosen 17 = .ok (.ifCond .eq 11, 3) := by decide +kernel
theorem dX5_chosen_20 : decode cX5_chosen 20 = .ok (.aload_n 0, 1) := by decide +kernel
theorem dX5_chosen_21 : decode cX5_chosen 21 = .ok (.iload_n 1, 1) := by decide +kernel
theorem dX5_chosen_22 : decode cX5_chosen 22 = .ok (.invokevirtual 112, 3) := by decide +kernel
theorem dX5_chosen_25 : decode cX5_chosen 25 = .ok (.goto 4, 3) := by decide +kernel
theorem dX5_chosen_28 : decode cX5_chosen 28 = .ok (.iconst 0, 1) := by decide +kernel
theorem dX5_chosen_29 : decode cX5_chosen 29 = .ok (.ireturn, 1) := by decide +kernel
theorem dX5_got_0 : decode cX5_got 0 = .ok (.aload_n 0, 1) := by decide +kernel
theorem dX5_got_1 : decode cX5_got 1 = .ok (.iload_n 1, 1) := by decide +kernel
theorem dX5_got_2 : decode cX5_got 2 = .ok (.iload_n 2, 1) := by decide +kernel
theorem dX5_got_3 : decode cX5_got 3 = .ok (.invokevirtual 151, 3) := by decide +kernel
theorem dX5_got_6 : decode cX5_got 6 = .ok (.ifCond .eq 16, 3) := by decide +kernel
theorem dX5_got_9 : decode cX5_got 9 = .ok (.aload_n 0, 1) := by decide +kernel
theorem dX5_got_10 : decode cX5_got 10 = .ok (.getfield 44, 3) := by decide +kernel
theorem dX5_got_13 : decode cX5_got 13 = .ok (.iload_n 1, 1) := by decide +kernel
theorem dX5_got_14 : decode cX5_got 14 = .ok (.iload_n 2, 1) := by decide +kernel
theorem dX5_got_15 : decode cX5_got 15 = .ok (.invokestatic 96, 3) := by decide +kernel
theorem dX5_got_18 : decode cX5_got 18 = .ok (.iaload, 1) := by decide +kernel
theorem dX5_got_19 : decode cX5_got 19 = .ok (.goto 4, 3) := by decide +kernel
theorem dX5_got_22 : decode cX5_got 22 = .ok (.iconst 0, 1) := by decide +kernel
theorem dX5_got_23 : decode cX5_got 23 = .ok (.ireturn, 1) := by decide +kernel
theorem dX5_doubles_0 : decode cX5_doubles 0 = .ok (.aload_n 0, 1) := by decide +kernel
theorem dX5_doubles_1 : decode cX5_doubles 1 = .ok (.aload_n 0, 1) := by decide +kernel
theorem dX5_doubles_2 : decode cX5_doubles 2 = .ok (.iload_n 1, 1) := by decide +kernel
theorem dX5_doubles_3 : decode cX5_doubles 3 = .ok (.invokevirtual 79, 3) := by decide +kernel
theorem dX5_doubles_6 : decode cX5_doubles 6 = .ok (.ifCond .eq 7, 3) := by decide +kernel
theorem dX5_doubles_9 : decode cX5_doubles 9 = .ok (.iconst 0, 1) := by decide +kernel
theorem dX5_doubles_10 : decode cX5_doubles 10 = .ok (.goto 4, 3) := by decide +kernel
theorem dX5_doubles_13 : decode cX5_doubles 13 = .ok (.iconst 1, 1) := by decide +kernel
theorem dX5_doubles_14 : decode cX5_doubles 14 = .ok (.invokevirtual 75, 3) := by decide +kernel
theorem dX5_doubles_17 : decode cX5_doubles 17 = .ok (.ifCond .eq 12, 3) := by decide +kernel
theorem dX5_doubles_20 : decode cX5_doubles 20 = .ok (.aload_n 0, 1) := by decide +kernel
theorem dX5_doubles_21 : decode cX5_doubles 21 = .ok (.getfield 29, 3) := by decide +kernel
theorem dX5_doubles_24 : decode cX5_doubles 24 = .ok (.iload_n 1, 1) := by decide +kernel
theorem dX5_doubles_25 : decode cX5_doubles 25 = .ok (.iaload, 1) := by decide +kernel
theorem dX5_doubles_26 : decode cX5_doubles 26 = .ok (.goto 4, 3) := by decide +kernel
theorem dX5_doubles_29 : decode cX5_doubles 29 = .ok (.iconst 0, 1) := by decide +kernel
theorem dX5_doubles_30 : decode cX5_doubles 30 = .ok (.ireturn, 1) := by decide +kernel
theorem dX5_strikes_0 : decode cX5_strikes 0 = .ok (.aload_n 0, 1) := by decide +kernel
theorem dX5_strikes_1 : decode cX5_strikes 1 = .ok (.iload_n 1, 1) := by decide +kernel
theorem dX5_strikes_2 : decode cX5_strikes 2 = .ok (.iload_n 2, 1) := by decide +kernel
theorem dX5_strikes_3 : decode cX5_strikes 3 = .ok (.invokevirtual 151, 3) := by decide +kernel
theorem dX5_strikes_6 : decode cX5_strikes 6 = .ok (.ifCond .eq 16, 3) := by decide +kernel
theorem dX5_strikes_9 : decode cX5_strikes 9 = .ok (.aload_n 0, 1) := by decide +kernel
theorem dX5_strikes_10 : decode cX5_strikes 10 = .ok (.getfield 47, 3) := by decide +kernel
theorem dX5_strikes_13 : decode cX5_strikes 13 = .ok (.iload_n 1, 1) := by decide +kernel
theorem dX5_strikes_14 : decode cX5_strikes 14 = .ok (.iload_n 2, 1) := by decide +kernel
theorem dX5_strikes_15 : decode cX5_strikes 15 = .ok (.invokestatic 96, 3) := by decide +kernel
theorem dX5_strikes_18 : decode cX5_strikes 18 = .ok (.iaload, 1) := by decide +kernel
theorem dX5_strikes_19 : decode cX5_strikes 19 = .ok (.goto 4, 3) := by decide +kernel
theorem dX5_strikes_22 : decode cX5_strikes 22 = .ok (.iconst 0, 1) := by decide +kernel
theorem dX5_strikes_23 : decode cX5_strikes 23 = .ok (.ireturn, 1) := by decide +kernel
theorem dX5_isBanned_0 : decode cX5_isBanned 0 = .ok (.aload_n 0, 1) := by decide +kernel
theorem dX5_isBanned_1 : decode cX5_isBanned 1 = .ok (.iload_n 1, 1) := by decide +kernel
theorem dX5_isBanned_2 : decode cX5_isBanned 2 = .ok (.iload_n 2, 1) := by decide +kernel
theorem dX5_isBanned_3 : decode cX5_isBanned 3 = .ok (.invokevirtual 151, 3) := by decide +kernel
theorem dX5_isBanned_6 : decode cX5_isBanned 6 = .ok (.ifCond .eq 20, 3) := by decide +kernel
theorem dX5_isBanned_9 : decode cX5_isBanned 9 = .ok (.aload_n 0, 1) := by decide +kernel
theorem dX5_isBanned_10 : decode cX5_isBanned 10 = .ok (.getfield 50, 3) := by decide +kernel
theorem dX5_isBanned_13 : decode cX5_isBanned 13 = .ok (.iload_n 1, 1) := by decide +kernel
theorem dX5_isBanned_14 : decode cX5_isBanned 14 = .ok (.iload_n 2, 1) := by decide +kernel
theorem dX5_isBanned_15 : decode cX5_isBanned 15 = .ok (.invokestatic 96, 3) := by decide +kernel
theorem dX5_isBanned_18 : decode cX5_isBanned 18 = .ok (.baload, 1) := by decide +kernel
theorem dX5_isBanned_19 : decode cX5_isBanned 19 = .ok (.ifCond .eq 7, 3) := by decide +kernel
theorem dX5_isBanned_22 : decode cX5_isBanned 22 = .ok (.iconst 1, 1) := by decide +kernel
theorem dX5_isBanned_23 : decode cX5_isBanned 23 = .ok (.goto 4, 3) := by decide +kernel
theorem dX5_isBanned_26 : decode cX5_isBanned 26 = .ok (.iconst 0, 1) := by decide +kernel
theorem dX5_isBanned_27 : decode cX5_isBanned 27 = .ok (.ireturn, 1) := by decide +kernel
theorem dJ6_bitCount_0f7a4_0 : decode cJ6_bitCount_0f7a4 0 = .ok (.iload_n 0, 1) := by decide +kernel
theorem dJ6_bitCount_0f7a4_1 : decode cJ6_bitCount_0f7a4 1 = .ok (.iload_n 0, 1) := by decide +kernel
theorem dJ6_bitCount_0f7a4_2 : decode cJ6_bitCount_0f7a4 2 = .ok (.iconst 1, 1) := by decide +kernel
theorem dJ6_bitCount_0f7a4_3 : decode cJ6_bitCount_0f7a4 3 = .ok (.iushr, 1) := by decide +kernel
theorem dJ6_bitCount_0f7a4_4 : decode cJ6_bitCount_0f7a4 4 = .ok (.ldc_w 265, 3) := by decide +kernel
theorem dJ6_bitCount_0f7a4_7 : decode cJ6_bitCount_0f7a4 7 = .ok (.iand, 1) := by decide +kernel
theorem dJ6_bitCount_0f7a4_8 : decode cJ6_bitCount_0f7a4 8 = .ok (.isub, 1) := by decide +kernel
theorem dJ6_bitCount_0f7a4_9 : decode cJ6_bitCount_0f7a4 9 = .ok (.istore_n 0, 1) := by decide +kernel
theorem dJ6_bitCount_0f7a4_10 : decode cJ6_bitCount_0f7a4 10 = .ok (.iload_n 0, 1) := by decide +kernel
theorem dJ6_bitCount_0f7a4_11 : decode cJ6_bitCount_0f7a4 11 = .ok (.ldc_w 266, 3) := by decide +kernel
theorem dJ6_bitCount_0f7a4_14 : decode cJ6_bitCount_0f7a4 14 = .ok (.iand, 1) := by decide +kernel
theorem dJ6_bitCount_0f7a4_15 : decode cJ6_bitCount_0f7a4 15 = .ok (.iload_n 0, 1) := by decide +kernel
theorem dJ6_bitCount_0f7a4_16 : decode cJ6_bitCount_0f7a4 16 = .ok (.iconst 2, 1) := by decide +kernel
theorem dJ6_bitCount_0f7a4_17 : decode cJ6_bitCount_0f7a4 17 = .ok (.iushr, 1) := by decide +kernel
theorem dJ6_bitCount_0f7a4_18 : decode cJ6_bitCount_0f7a4 18 = .ok (.ldc_w 266, 3) := by decide +kernel
theorem dJ6_bitCount_0f7a4_21 : decode cJ6_bitCount_0f7a4 21 = .ok (.iand, 1) := by decide +kernel
theorem dJ6_bitCount_0f7a4_22 : decode cJ6_bitCount_0f7a4 22 = .ok (.iadd, 1) := by decide +kernel
theorem dJ6_bitCount_0f7a4_23 : decode cJ6_bitCount_0f7a4 23 = .ok (.istore_n 0, 1) := by decide +kernel
theorem dJ6_bitCount_0f7a4_24 : decode cJ6_bitCount_0f7a4 24 = .ok (.iload_n 0, 1) := by decide +kernel
end
section
theorem dJ6_bitCount_0f7a4_25 : decode cJ6_bitCount_0f7a4 25 = .ok (.iload_n 0, 1) := by decide +kernel
theorem dJ6_bitCount_0f7a4_26 : decode cJ6_bitCount_0f7a4 26 = .ok (.iconst 4, 1) := by decide +kernel
theorem dJ6_bitCount_0f7a4_27 : decode cJ6_bitCount_0f7a4 27 = .ok (.iushr, 1) := by decide +kernel
theorem dJ6_bitCount_0f7a4_28 : decode cJ6_bitCount_0f7a4 28 = .ok (.iadd, 1) := by decide +kernel
theorem dJ6_bitCount_0f7a4_29 : decode cJ6_bitCount_0f7a4 29 = .ok (.ldc_w 267, 3) := by decide +kernel
theorem dJ6_bitCount_0f7a4_32 : decode cJ6_bitCount_0f7a4 32 = .ok (.iand, 1) := by decide +kernel
theorem dJ6_bitCount_0f7a4_33 : decode cJ6_bitCount_0f7a4 33 = .ok (.istore_n 0, 1) := by decide +kernel
theorem dJ6_bitCount_0f7a4_34 : decode cJ6_bitCount_0f7a4 34 = .ok (.iload_n 0, 1) := by decide +kernel
theorem dJ6_bitCount_0f7a4_35 : decode cJ6_bitCount_0f7a4 35 = .ok (.iload_n 0, 1) := by decide +kernel
theorem dJ6_bitCount_0f7a4_36 : decode cJ6_bitCount_0f7a4 36 = .ok (.bipush 8, 2) := by decide +kernel
theorem dJ6_bitCount_0f7a4_38 : decode cJ6_bitCount_0f7a4 38 = .ok (.iushr, 1) := by decide +kernel
theorem dJ6_bitCount_0f7a4_39 : decode cJ6_bitCount_0f7a4 39 = .ok (.iadd, 1) := by decide +kernel
theorem dJ6_bitCount_0f7a4_40 : decode cJ6_bitCount_0f7a4 40 = .ok (.istore_n 0, 1) := by decide +kernel
theorem dJ6_bitCount_0f7a4_41 : decode cJ6_bitCount_0f7a4 41 = .ok (.iload_n 0, 1) := by decide +kernel
theorem dJ6_bitCount_0f7a4_42 : decode cJ6_bitCount_0f7a4 42 = .ok (.iload_n 0, 1) := by decide +kernel
theorem dJ6_bitCount_0f7a4_43 : decode cJ6_bitCount_0f7a4 43 = .ok (.bipush 16, 2) := by decide +kernel
theorem dJ6_bitCount_0f7a4_45 : decode cJ6_bitCount_0f7a4 45 = .ok (.iushr, 1) := by decide +kernel
theorem dJ6_bitCount_0f7a4_46 : decode cJ6_bitCount_0f7a4 46 = .ok (.iadd, 1) := by decide +kernel
theorem dJ6_bitCount_0f7a4_47 : decode cJ6_bitCount_0f7a4 47 = .ok (.istore_n 0, 1) := by decide +kernel
theorem dJ6_bitCount_0f7a4_48 : decode cJ6_bitCount_0f7a4 48 = .ok (.iload_n 0, 1) := by decide +kernel
theorem dJ6_bitCount_0f7a4_49 : decode cJ6_bitCount_0f7a4 49 = .ok (.bipush 63, 2) := by decide +kernel
theorem dJ6_bitCount_0f7a4_51 : decode cJ6_bitCount_0f7a4 51 = .ok (.iand, 1) := by decide +kernel
theorem dJ6_bitCount_0f7a4_52 : decode cJ6_bitCount_0f7a4 52 = .ok (.ireturn, 1) := by decide +kernel
theorem dJ7_fill_53178_0 : decode cJ7_fill_53178 0 = .ok (.iconst 0, 1) := by decide +kernel
theorem dJ7_fill_53178_1 : decode cJ7_fill_53178 1 = .ok (.istore_n 2, 1) := by decide +kernel
theorem dJ7_fill_53178_2 : decode cJ7_fill_53178 2 = .ok (.aload_n 0, 1) := by decide +kernel
theorem dJ7_fill_53178_3 : decode cJ7_fill_53178 3 = .ok (.arraylength, 1) := by decide +kernel
theorem dJ7_fill_53178_4 : decode cJ7_fill_53178 4 = .ok (.istore_n 3, 1) := by decide +kernel
theorem dJ7_fill_53178_5 : decode cJ7_fill_53178 5 = .ok (.iload_n 2, 1) := by decide +kernel
theorem dJ7_fill_53178_6 : decode cJ7_fill_53178 6 = .ok (.iload_n 3, 1) := by decide +kernel
theorem dJ7_fill_53178_7 : decode cJ7_fill_53178 7 = .ok (.if_icmp .ge 13, 3) := by decide +kernel
theorem dJ7_fill_53178_10 : decode cJ7_fill_53178 10 = .ok (.aload_n 0, 1) := by decide +kernel
theorem dJ7_fill_53178_11 : decode cJ7_fill_53178 11 = .ok (.iload_n 2, 1) := by decide +kernel
theorem dJ7_fill_53178_12 : decode cJ7_fill_53178 12 = .ok (.iload_n 1, 1) := by decide +kernel
theorem dJ7_fill_53178_13 : decode cJ7_fill_53178 13 = .ok (.iastore, 1) := by decide +kernel
theorem dJ7_fill_53178_14 : decode cJ7_fill_53178 14 = .ok (.iinc 2 1, 3) := by decide +kernel
theorem dJ7_fill_53178_17 : decode cJ7_fill_53178 17 = .ok (.goto (-12), 3) := by decide +kernel
theorem dJ7_fill_53178_20 : decode cJ7_fill_53178 20 = .ok (.return_, 1) := by decide +kernel
theorem dL_join_0 : decode cL_join 0 = .ok (.aload_n 2, 1) := by decide +kernel
theorem dL_join_1 : decode cL_join 1 = .ok (.iconst 0, 1) := by decide +kernel
theorem dL_join_2 : decode cL_join 2 = .ok (.aload_n 0, 1) := by decide +kernel
theorem dL_join_3 : decode cL_join 3 = .ok (.iload_n 1, 1) := by decide +kernel
theorem dL_join_4 : decode cL_join 4 = .ok (.invokevirtual 7, 3) := by decide +kernel
theorem dL_join_7 : decode cL_join 7 = .ok (.i2l, 1) := by decide +kernel
theorem dL_join_8 : decode cL_join 8 = .ok (.lastore, 1) := by decide +kernel
theorem dL_join_9 : decode cL_join 9 = .ok (.goto 6, 3) := by decide +kernel
theorem dL_join_12 : decode cL_join 12 = .ok (.astore_n 3, 1) := by decide +kernel
theorem dL_join_13 : decode cL_join 13 = .ok (.iconst 1, 1) := by decide +kernel
theorem dL_join_14 : decode cL_join 14 = .ok (.ireturn, 1) := by decide +kernel
theorem dL_join_15 : decode cL_join 15 = .ok (.iconst 0, 1) := by decide +kernel
theorem dL_join_16 : decode cL_join 16 = .ok (.ireturn, 1) := by decide +kernel
theorem dL_leave_0 : decode cL_leave 0 = .ok (.aload_n 2, 1) := by decide +kernel
theorem dL_leave_1 : decode cL_leave 1 = .ok (.iconst 0, 1) := by decide +kernel
theorem dL_leave_2 : decode cL_leave 2 = .ok (.aload_n 0, 1) := by decide +kernel
theorem dL_leave_3 : decode cL_leave 3 = .ok (.iload_n 1, 1) := by decide +kernel
theorem dL_leave_4 : decode cL_leave 4 = .ok (.invokevirtual 15, 3) := by decide +kernel
theorem dL_leave_7 : decode cL_leave 7 = .ok (.i2l, 1) := by decide +kernel
theorem dL_leave_8 : decode cL_leave 8 = .ok (.lastore, 1) := by decide +kernel
theorem dL_leave_9 : decode cL_leave 9 = .ok (.goto 6, 3) := by decide +kernel
theorem dL_leave_12 : decode cL_leave 12 = .ok (.astore_n 3, 1) := by decide +kernel
theorem dL_leave_13 : decode cL_leave 13 = .ok (.iconst 1, 1) := by decide +kernel
theorem dL_leave_14 : decode cL_leave 14 = .ok (.ireturn, 1) := by decide +kernel
theorem dL_leave_15 : decode cL_leave 15 = .ok (.iconst 0, 1) := by decide +kernel
theorem dL_leave_16 : decode cL_leave 16 = .ok (.ireturn, 1) := by decide +kernel
theorem dL_setPriority_0 : decode cL_setPriority 0 = .ok (.aload_n 3, 1) := by decide +kernel
theorem dL_setPriority_1 : decode cL_setPriority 1 = .ok (.iconst 0, 1) := by decide +kernel
theorem dL_setPriority_2 : decode cL_setPriority 2 = .ok (.aload_n 0, 1) := by decide +kernel
theorem dL_setPriority_3 : decode cL_setPriority 3 = .ok (.iload_n 1, 1) := by decide +kernel
theorem dL_setPriority_4 : decode cL_setPriority 4 = .ok (.iload_n 2, 1) := by decide +kernel
theorem dL_setPriority_5 : decode cL_setPriority 5 = .ok (.invokevirtual 21, 3) := by decide +kernel
theorem dL_setPriority_8 : decode cL_setPriority 8 = .ok (.i2l, 1) := by decide +kernel
theorem dL_setPriority_9 : decode cL_setPriority 9 = .ok (.lastore, 1) := by decide +kernel
theorem dL_setPriority_10 : decode cL_setPriority 10 = .ok (.goto 11, 3) := by decide +kernel
theorem dL_setPriority_13 : decode cL_setPriority 13 = .ok (.astore 4, 2) := by decide +kernel
theorem dL_setPriority_15 : decode cL_setPriority 15 = .ok (.iconst 1, 1) := by decide +kernel
theorem dL_setPriority_16 : decode cL_setPriority 16 = .ok (.ireturn, 1) := by decide +kernel
theorem dL_setPriority_17 : decode cL_setPriority 17 = .ok (.astore 4, 2) := by decide +kernel
theorem dL_setPriority_19 : decode cL_setPriority 19 = .ok (.iconst 2, 1) := by decide +kernel
theorem dL_setPriority_20 : decode cL_setPriority 20 = .ok (.ireturn, 1) := by decide +kernel
theorem dL_setPriority_21 : decode cL_setPriority 21 = .ok (.iconst 0, 1) := by decide +kernel
theorem dL_setPriority_22 : decode cL_setPriority 22 = .ok (.ireturn, 1) := by decide +kernel
theorem dL_setSequence_0 : decode cL_setSequence 0 = .ok (.aload_n 3, 1) := by decide +kernel
theorem dL_setSequence_1 : decode cL_setSequence 1 = .ok (.iconst 0, 1) := by decide +kernel
theorem dL_setSequence_2 : decode cL_setSequence 2 = .ok (.aload_n 0, 1) := by decide +kernel
theorem dL_setSequence_3 : decode cL_setSequence 3 = .ok (.iload_n 1, 1) := by decide +kernel
theorem dL_setSequence_4 : decode cL_setSequence 4 = .ok (.iload_n 2, 1) := by decide +kernel
theorem dL_setSequence_5 : decode cL_setSequence 5 = .ok (.invokevirtual 27, 3) := by decide +kernel
theorem dL_setSequence_8 : decode cL_setSequence 8 = .ok (.ifCond .eq 7, 3) := by decide +kernel
theorem dL_setSequence_11 : decode cL_setSequence 11 = .ok (.lconst 1, 1) := by decide +kernel
theorem dL_setSequence_12 : decode cL_setSequence 12 = .ok (.goto 4, 3) := by decide +kernel
theorem dL_setSequence_15 : decode cL_setSequence 15 = .ok (.lconst 0, 1) := by decide +kernel
theorem dL_setSequence_16 : decode cL_setSequence 16 = .ok (.lastore, 1) := by decide +kernel
theorem dL_setSequence_17 : decode cL_setSequence 17 = .ok (.goto 7, 3) := by decide +kernel
theorem dL_setSequence_20 : decode cL_setSequence 20 = .ok (.astore 4, 2) := by decide +kernel
theorem dL_setSequence_22 : decode cL_setSequence 22 = .ok (.iconst 1, 1) := by decide +kernel
theorem dL_setSequence_23 : decode cL_setSequence 23 = .ok (.ireturn, 1) := by decide +kernel
theorem dL_setSequence_24 : decode cL_setSequence 24 = .ok (.iconst 0, 1) := by decide +kernel
theorem dL_setSequence_25 : decode cL_setSequence 25 = .ok (.ireturn, 1) := by decide +kernel
theorem dL_setCareful_0 : decode cL_setCareful 0 = .ok (.aload_n 3, 1) := by decide +kernel
theorem dL_setCareful_1 : decode cL_setCareful 1 = .ok (.iconst 0, 1) := by decide +kernel
theorem dL_setCareful_2 : decode cL_setCareful 2 = .ok (.aload_n 0, 1) := by decide +kernel
theorem dL_setCareful_3 : decode cL_setCareful 3 = .ok (.iload_n 1, 1) := by decide +kernel
theorem dL_setCareful_4 : decode cL_setCareful 4 = .ok (.iload_n 2, 1) := by decide +kernel
theorem dL_setCareful_5 : decode cL_setCareful 5 = .ok (.invokevirtual 31, 3) := by decide +kernel
theorem dL_setCareful_8 : decode cL_setCareful 8 = .ok (.ifCond .eq 7, 3) := by decide +kernel
theorem dL_setCareful_11 : decode cL_setCareful 11 = .ok (.lconst 1, 1) := by decide +kernel
theorem dL_setCareful_12 : decode cL_setCareful 12 = .ok (.goto 4, 3) := by decide +kernel
theorem dL_setCareful_15 : decode cL_setCareful 15 = .ok (.lconst 0, 1) := by decide +kernel
theorem dL_setCareful_16 : decode cL_setCareful 16 = .ok (.lastore, 1) := by decide +kernel
theorem dL_setCareful_17 : decode cL_setCareful 17 = .ok (.goto 7, 3) := by decide +kernel
theorem dL_setCareful_20 : decode cL_setCareful 20 = .ok (.astore 4, 2) := by decide +kernel
theorem dL_setCareful_22 : decode cL_setCareful 22 = .ok (.iconst 1, 1) := by decide +kernel
theorem dL_setCareful_23 : decode cL_setCareful 23 = .ok (.ireturn, 1) := by decide +kernel
theorem dL_setCareful_24 : decode cL_setCareful 24 = .ok (.iconst 0, 1) := by decide +kernel
theorem dL_setCareful_25 : decode cL_setCareful 25 = .ok (.ireturn, 1) := by decide +kernel
theorem dL_spoil_0 : decode cL_spoil 0 = .ok (.aload 4, 2) := by decide +kernel
theorem dL_spoil_2 : decode cL_spoil 2 = .ok (.iconst 0, 1) := by decide +kernel
theorem dL_spoil_3 : decode cL_spoil 3 = .ok (.aload_n 0, 1) := by decide +kernel
theorem dL_spoil_4 : decode cL_spoil 4 = .ok (.iload_n 1, 1) := by decide +kernel
theorem dL_spoil_5 : decode cL_spoil 5 = .ok (.iload_n 2, 1) := by decide +kernel
theorem dL_spoil_6 : decode cL_spoil 6 = .ok (.iload_n 3, 1) := by decide +kernel
theorem dL_spoil_7 : decode cL_spoil 7 = .ok (.invokevirtual 34, 3) := by decide +kernel
theorem dL_spoil_10 : decode cL_spoil 10 = .ok (.ifCond .eq 7, 3) := by decide +kernel
theorem dL_spoil_13 : decode cL_spoil 13 = .ok (.lconst 1, 1) := by decide +kernel
theorem dL_spoil_14 : decode cL_spoil 14 = .ok (.goto 4, 3) := by decide +kernel
theorem dL_spoil_17 : decode cL_spoil 17 = .ok (.lconst 0, 1) := by decide +kernel
theorem dL_spoil_18 : decode cL_spoil 18 = .ok (.lastore, 1) := by decide +kernel
theorem dL_spoil_19 : decode cL_spoil 19 = .ok (.goto 7, 3) := by decide +kernel
theorem dL_spoil_22 : decode cL_spoil 22 = .ok (.astore 5, 2) := by decide +kernel
theorem dL_spoil_24 : decode cL_spoil 24 = .ok (.iconst 1, 1) := by decide +kernel
theorem dL_spoil_25 : decode cL_spoil 25 = .ok (.ireturn, 1) := by decide +kernel
theorem dL_spoil_26 : decode cL_spoil 26 = .ok (.iconst 0, 1) := by decide +kernel
theorem dL_spoil_27 : decode cL_spoil 27 = .ok (.ireturn, 1) := by decide +kernel
theorem dL_run_0 : decode cL_run 0 = .ok (.aload_n 2, 1) := by decide +kernel
theorem dL_run_1 : decode cL_run 1 = .ok (.iconst 0, 1) := by decide +kernel
theorem dL_run_2 : decode cL_run 2 = .ok (.aload_n 0, 1) := by decide +kernel
theorem dL_run_3 : decode cL_run 3 = .ok (.iload_n 1, 1) := by decide +kernel
theorem dL_run_4 : decode cL_run 4 = .ok (.invokevirtual 38, 3) := by decide +kernel
theorem dL_run_7 : decode cL_run 7 = .ok (.i2l, 1) := by decide +kernel
theorem dL_run_8 : decode cL_run 8 = .ok (.lastore, 1) := by decide +kernel
theorem dL_run_9 : decode cL_run 9 = .ok (.goto 9, 3) := by decide +kernel
theorem dL_run_12 : decode cL_run 12 = .ok (.astore_n 3, 1) := by decide +kernel
theorem dL_run_13 : decode cL_run 13 = .ok (.iconst 1, 1) := by decide +kernel
theorem dL_run_14 : decode cL_run 14 = .ok (.ireturn, 1) := by decide +kernel
theorem dL_run_15 : decode cL_run 15 = .ok (.astore_n 3, 1) := by decide +kernel
theorem dL_run_16 : decode cL_run 16 = .ok (.iconst 2, 1) := by decide +kernel
theorem dL_run_17 : decode cL_run 17 = .ok (.ireturn, 1) := by decide +kernel
theorem dL_run_18 : decode cL_run 18 = .ok (.iconst 0, 1) := by decide +kernel
theorem dL_run_19 : decode cL_run 19 = .ok (.ireturn, 1) := by decide +kernel
theorem dL_holds_0 : decode cL_holds 0 = .ok (.aload_n 2, 1) := by decide +kernel
theorem dL_holds_1 : decode cL_holds 1 = .ok (.iconst 0, 1) := by decide +kernel
theorem dL_holds_2 : decode cL_holds 2 = .ok (.aload_n 0, 1) := by decide +kernel
theorem dL_holds_3 : decode cL_holds 3 = .ok (.iload_n 1, 1) := by decide +kernel
theorem dL_holds_4 : decode cL_holds 4 = .ok (.invokevirtual 41, 3) := by decide +kernel
theorem dL_holds_7 : decode cL_holds 7 = .ok (.i2l, 1) := by decide +kernel
theorem dL_holds_8 : decode cL_holds 8 = .ok (.lastore, 1) := by decide +kernel
theorem dL_holds_9 : decode cL_holds 9 = .ok (.goto 6, 3) := by decide +kernel
theorem dL_holds_12 : decode cL_holds 12 = .ok (.astore_n 3, 1) := by decide +kernel
theorem dL_holds_13 : decode cL_holds 13 = .ok (.iconst 1, 1) := by decide +kernel
theorem dL_holds_14 : decode cL_holds 14 = .ok (.ireturn, 1) := by decide +kernel
theorem dL_holds_15 : decode cL_holds 15 = .ok (.iconst 0, 1) := by decide +kernel
theorem dL_holds_16 : decode cL_holds 16 = .ok (.ireturn, 1) := by decide +kernel
theorem dL_holdsByLog_0 : decode cL_holdsByLog 0 = .ok (.aload_n 2, 1) := by decide +kernel
theorem dL_holdsByLog_1 : decode cL_holdsByLog 1 = .ok (.iconst 0, 1) := by decide +kernel
theorem dL_holdsByLog_2 : decode cL_holdsByLog 2 = .ok (.aload_n 0, 1) := by decide +kernel
theorem dL_holdsByLog_3 : decode cL_holdsByLog 3 = .ok (.iload_n 1, 1) := by decide +kernel
theorem dL_holdsByLog_4 : decode cL_holdsByLog 4 = .ok (.invokevirtual 44, 3) := by decide +kernel
theorem dL_holdsByLog_7 : decode cL_holdsByLog 7 = .ok (.i2l, 1) := by decide +kernel
theorem dL_holdsByLog_8 : decode cL_holdsByLog 8 = .ok (.lastore, 1) := by decide +kernel
theorem dL_holdsByLog_9 : decode cL_holdsByLog 9 = .ok (.goto 6, 3) := by decide +kernel
theorem dL_holdsByLog_12 : decode cL_holdsByLog 12 = .ok (.astore_n 3, 1) := by decide +kernel
theorem dL_holdsByLog_13 : decode cL_holdsByLog 13 = .ok (.iconst 1, 1) := by decide +kernel
theorem dL_holdsByLog_14 : decode cL_holdsByLog 14 = .ok (.ireturn, 1) := by decide +kernel
theorem dL_holdsByLog_15 : decode cL_holdsByLog 15 = .ok (.iconst 0, 1) := by decide +kernel
theorem dL_holdsByLog_16 : decode cL_holdsByLog 16 = .ok (.ireturn, 1) := by decide +kernel
theorem dL_blocks_0 : decode cL_blocks 0 = .ok (.aload_n 3, 1) := by decide +kernel
theorem dL_blocks_1 : decode cL_blocks 1 = .ok (.iconst 0, 1) := by decide +kernel
theorem dL_blocks_2 : decode cL_blocks 2 = .ok (.aload_n 0, 1) := by decide +kernel
theorem dL_blocks_3 : decode cL_blocks 3 = .ok (.iload_n 1, 1) := by decide +kernel
theorem dL_blocks_4 : decode cL_blocks 4 = .ok (.iload_n 2, 1) := by decide +kernel
theorem dL_blocks_5 : decode cL_blocks 5 = .ok (.invokevirtual 47, 3) := by decide +kernel
theorem dL_blocks_8 : decode cL_blocks 8 = .ok (.i2l, 1) := by decide +kernel
theorem dL_blocks_9 : decode cL_blocks 9 = .ok (.lastore, 1) := by decide +kernel
theorem dL_blocks_10 : decode cL_blocks 10 = .ok (.goto 7, 3) := by decide +kernel
theorem dL_blocks_13 : decode cL_blocks 13 = .ok (.astore 4, 2) := by decide +kernel
theorem dL_blocks_15 : decode cL_blocks 15 = .ok (.iconst 1, 1) := by decide +kernel
theorem dL_blocks_16 : decode cL_blocks 16 = .ok (.ireturn, 1) := by decide +kernel
theorem dL_blocks_17 : decode cL_blocks 17 = .ok (.iconst 0, 1) := by decide +kernel
theorem dL_blocks_18 : decode cL_blocks 18 = .ok (.ireturn, 1) := by decide +kernel
theorem dL_holders_0 : decode cL_holders 0 = .ok (.aload_n 2, 1) := by decide +kernel
theorem dL_holders_1 : decode cL_holders 1 = .ok (.iconst 0, 1) := by decide +kernel
theorem dL_holders_2 : decode cL_holders 2 = .ok (.aload_n 0, 1) := by decide +kernel
theorem dL_holders_3 : decode cL_holders 3 = .ok (.iload_n 1, 1) := by decide +kernel
theorem dL_holders_4 : decode cL_holders 4 = .ok (.invokevirtual 50, 3) := by decide +kernel
theorem dL_holders_7 : decode cL_holders 7 = .ok (.i2l, 1) := by decide +kernel
theorem dL_holders_8 : decode cL_holders 8 = .ok (.lastore, 1) := by decide +kernel
theorem dL_holders_9 : decode cL_holders 9 = .ok (.goto 6, 3) := by decide +kernel
theorem dL_holders_12 : decode cL_holders 12 = .ok (.astore_n 3, 1) := by decide +kernel
theorem dL_holders_13 : decode cL_holders 13 = .ok (.iconst 1, 1) := by decide +kernel
theorem dL_holders_14 : decode cL_holders 14 = .ok (.ireturn, 1) := by decide +kernel
theorem dL_holders_15 : decode cL_holders 15 = .ok (.iconst 0, 1) := by decide +kernel
theorem dL_holders_16 : decode cL_holders 16 = .ok (.ireturn, 1) := by decide +kernel
theorem dL_shown_0 : decode cL_shown 0 = .ok (.aload_n 3, 1) := by decide +kernel
theorem dL_shown_1 : decode cL_shown 1 = .ok (.iconst 0, 1) := by decide +kernel
theorem dL_shown_2 : decode cL_shown 2 = .ok (.aload_n 0, 1) := by decide +kernel
theorem dL_shown_3 : decode cL_shown 3 = .ok (.iload_n 1, 1) := by decide +kernel
theorem dL_shown_4 : decode cL_shown 4 = .ok (.iload_n 2, 1) := by decide +kernel
theorem dL_shown_5 : decode cL_shown 5 = .ok (.invokevirtual 53, 3) := by decide +kernel
theorem dL_shown_8 : decode cL_shown 8 = .ok (.i2l, 1) := by decide +kernel
theorem dL_shown_9 : decode cL_shown 9 = .ok (.lastore, 1) := by decide +kernel
theorem dL_shown_10 : decode cL_shown 10 = .ok (.goto 7, 3) := by decide +kernel
theorem dL_shown_13 : decode cL_shown 13 = .ok (.astore 4, 2) := by decide +kernel
theorem dL_shown_15 : decode cL_shown 15 = .ok (.iconst 1, 1) := by decide +kernel
theorem dL_shown_16 : decode cL_shown 16 = .ok (.ireturn, 1) := by decide +kernel
theorem dL_shown_17 : decode cL_shown 17 = .ok (.iconst 0, 1) := by decide +kernel
theorem dL_shown_18 : decode cL_shown 18 = .ok (.ireturn, 1) := by decide +kernel
theorem dL_chosen_0 : decode cL_chosen 0 = .ok (.aload_n 2, 1) := by decide +kernel
theorem dL_chosen_1 : decode cL_chosen 1 = .ok (.iconst 0, 1) := by decide +kernel
theorem dL_chosen_2 : decode cL_chosen 2 = .ok (.aload_n 0, 1) := by decide +kernel
theorem dL_chosen_3 : decode cL_chosen 3 = .ok (.iload_n 1, 1) := by decide +kernel
theorem dL_chosen_4 : decode cL_chosen 4 = .ok (.invokevirtual 56, 3) := by decide +kernel
theorem dL_chosen_7 : decode cL_chosen 7 = .ok (.i2l, 1) := by decide +kernel
theorem dL_chosen_8 : decode cL_chosen 8 = .ok (.lastore, 1) := by decide +kernel
theorem dL_chosen_9 : decode cL_chosen 9 = .ok (.goto 6, 3) := by decide +kernel
theorem dL_chosen_12 : decode cL_chosen 12 = .ok (.astore_n 3, 1) := by decide +kernel
theorem dL_chosen_13 : decode cL_chosen 13 = .ok (.iconst 1, 1) := by decide +kernel
theorem dL_chosen_14 : decode cL_chosen 14 = .ok (.ireturn, 1) := by decide +kernel
theorem dL_chosen_15 : decode cL_chosen 15 = .ok (.iconst 0, 1) := by decide +kernel
theorem dL_chosen_16 : decode cL_chosen 16 = .ok (.ireturn, 1) := by decide +kernel
theorem dL_got_0 : decode cL_got 0 = .ok (.aload_n 3, 1) := by decide +kernel
theorem dL_got_1 : decode cL_got 1 = .ok (.iconst 0, 1) := by decide +kernel
theorem dL_got_2 : decode cL_got 2 = .ok (.aload_n 0, 1) := by decide +kernel
theorem dL_got_3 : decode cL_got 3 = .ok (.iload_n 1, 1) := by decide +kernel
theorem dL_got_4 : decode cL_got 4 = .ok (.iload_n 2, 1) := by decide +kernel
theorem dL_got_5 : decode cL_got 5 = .ok (.invokevirtual 59, 3) := by decide +kernel
theorem dL_got_8 : decode cL_got 8 = .ok (.i2l, 1) := by decide +kernel
theorem dL_got_9 : decode cL_got 9 = .ok (.lastore, 1) := by decide +kernel
theorem dL_got_10 : decode cL_got 10 = .ok (.goto 7, 3) := by decide +kernel
theorem dL_got_13 : decode cL_got 13 = .ok (.astore 4, 2) := by decide +kernel
theorem dL_got_15 : decode cL_got 15 = .ok (.iconst 1, 1) := by decide +kernel
theorem dL_got_16 : decode cL_got 16 = .ok (.ireturn, 1) := by decide +kernel
theorem dL_got_17 : decode cL_got 17 = .ok (.iconst 0, 1) := by decide +kernel
theorem dL_got_18 : decode cL_got 18 = .ok (.ireturn, 1) := by decide +kernel
theorem dL_doubles_0 : decode cL_doubles 0 = .ok (.aload_n 2, 1) := by decide +kernel
theorem dL_doubles_1 : decode cL_doubles 1 = .ok (.iconst 0, 1) := by decide +kernel
theorem dL_doubles_2 : decode cL_doubles 2 = .ok (.aload_n 0, 1) := by decide +kernel
theorem dL_doubles_3 : decode cL_doubles 3 = .ok (.iload_n 1, 1) := by decide +kernel
theorem dL_doubles_4 : decode cL_doubles 4 = .ok (.invokevirtual 62, 3) := by decide +kernel
theorem dL_doubles_7 : decode cL_doubles 7 = .ok (.i2l, 1) := by decide +kernel
theorem dL_doubles_8 : decode cL_doubles 8 = .ok (.lastore, 1) := by decide +kernel
theorem dL_doubles_9 : decode cL_doubles 9 = .ok (.goto 6, 3) := by decide +kernel
theorem dL_doubles_12 : decode cL_doubles 12 = .ok (.astore_n 3, 1) := by decide +kernel
theorem dL_doubles_13 : decode cL_doubles 13 = .ok (.iconst 1, 1) := by decide +kernel
theorem dL_doubles_14 : decode cL_doubles 14 = .ok (.ireturn, 1) := by decide +kernel
theorem dL_doubles_15 : decode cL_doubles 15 = .ok (.iconst 0, 1) := by decide +kernel
theorem dL_doubles_16 : decode cL_doubles 16 = .ok (.ireturn, 1) := by decide +kernel
theorem dL_strikes_0 : decode cL_strikes 0 = .ok (.aload_n 3, 1) := by decide +kernel
theorem dL_strikes_1 : decode cL_strikes 1 = .ok (.iconst 0, 1) := by decide +kernel
theorem dL_strikes_2 : decode cL_strikes 2 = .ok (.aload_n 0, 1) := by decide +kernel
theorem dL_strikes_3 : decode cL_strikes 3 = .ok (.iload_n 1, 1) := by decide +kernel
theorem dL_strikes_4 : decode cL_strikes 4 = .ok (.iload_n 2, 1) := by decide +kernel
theorem dL_strikes_5 : decode cL_strikes 5 = .ok (.invokevirtual 65, 3) := by decide +kernel
theorem dL_strikes_8 : decode cL_strikes 8 = .ok (.i2l, 1) := by decide +kernel
theorem dL_strikes_9 : decode cL_strikes 9 = .ok (.lastore, 1) := by decide +kernel
theorem dL_strikes_10 : decode cL_strikes 10 = .ok (.goto 7, 3) := by decide +kernel
theorem dL_strikes_13 : decode cL_strikes 13 = .ok (.astore 4, 2) := by decide +kernel
theorem dL_strikes_15 : decode cL_strikes 15 = .ok (.iconst 1, 1) := by decide +kernel
theorem dL_strikes_16 : decode cL_strikes 16 = .ok (.ireturn, 1) := by decide +kernel
theorem dL_strikes_17 : decode cL_strikes 17 = .ok (.iconst 0, 1) := by decide +kernel
theorem dL_strikes_18 : decode cL_strikes 18 = .ok (.ireturn, 1) := by decide +kernel
theorem dL_isBanned_0 : decode cL_isBanned 0 = .ok (.aload_n 3, 1) := by decide +kernel
theorem dL_isBanned_1 : decode cL_isBanned 1 = .ok (.iconst 0, 1) := by decide +kernel
theorem dL_isBanned_2 : decode cL_isBanned 2 = .ok (.aload_n 0, 1) := by decide +kernel
theorem dL_isBanned_3 : decode cL_isBanned 3 = .ok (.iload_n 1, 1) := by decide +kernel
theorem dL_isBanned_4 : decode cL_isBanned 4 = .ok (.iload_n 2, 1) := by decide +kernel
theorem dL_isBanned_5 : decode cL_isBanned 5 = .ok (.invokevirtual 68, 3) := by decide +kernel
theorem dL_isBanned_8 : decode cL_isBanned 8 = .ok (.ifCond .eq 7, 3) := by decide +kernel
theorem dL_isBanned_11 : decode cL_isBanned 11 = .ok (.lconst 1, 1) := by decide +kernel
theorem dL_isBanned_12 : decode cL_isBanned 12 = .ok (.goto 4, 3) := by decide +kernel
theorem dL_isBanned_15 : decode cL_isBanned 15 = .ok (.lconst 0, 1) := by decide +kernel
theorem dL_isBanned_16 : decode cL_isBanned 16 = .ok (.lastore, 1) := by decide +kernel
theorem dL_isBanned_17 : decode cL_isBanned 17 = .ok (.goto 7, 3) := by decide +kernel
theorem dL_isBanned_20 : decode cL_isBanned 20 = .ok (.astore 4, 2) := by decide +kernel
theorem dL_isBanned_22 : decode cL_isBanned 22 = .ok (.iconst 1, 1) := by decide +kernel
theorem dL_isBanned_23 : decode cL_isBanned 23 = .ok (.ireturn, 1) := by decide +kernel
theorem dL_isBanned_24 : decode cL_isBanned 24 = .ok (.iconst 0, 1) := by decide +kernel
theorem dL_isBanned_25 : decode cL_isBanned 25 = .ok (.ireturn, 1) := by decide +kernel
theorem dL_law_0 : decode cL_law 0 = .ok (.new 8, 3) := by decide +kernel
theorem dL_law_3 : decode cL_law 3 = .ok (.dup, 1) := by decide +kernel
theorem dL_law_4 : decode cL_law 4 = .ok (.invokespecial 72, 3) := by decide +kernel
theorem dL_law_7 : decode cL_law 7 = .ok (.astore_n 1, 1) := by decide +kernel
theorem dL_law_8 : decode cL_law 8 = .ok (.new 73, 3) := by decide +kernel
theorem dL_law_11 : decode cL_law 11 = .ok (.dup, 1) := by decide +kernel
theorem dL_law_12 : decode cL_law 12 = .ok (.invokespecial 75, 3) := by decide +kernel
theorem dL_law_15 : decode cL_law 15 = .ok (.astore_n 2, 1) := by decide +kernel
theorem dL_law_16 : decode cL_law 16 = .ok (.iconst 1, 1) := by decide +kernel
theorem dL_law_17 : decode cL_law 17 = .ok (.newarray .long, 2) := by decide +kernel
theorem dL_law_19 : decode cL_law 19 = .ok (.astore_n 3, 1) := by decide +kernel
theorem dL_law_20 : decode cL_law 20 = .ok (.iconst 0, 1) := by decide +kernel
theorem dL_law_21 : decode cL_law 21 = .ok (.istore 4, 2) := by decide +kernel
theorem dL_law_23 : decode cL_law 23 = .ok (.iload 4, 2) := by decide +kernel
theorem dL_law_25 : decode cL_law 25 = .ok (.aload_n 0, 1) := by decide +kernel
theorem dL_law_26 : decode cL_law 26 = .ok (.arraylength, 1) := by decide +kernel
theorem dL_law_27 : decode cL_law 27 = .ok (.iconst 4, 1) := by decide +kernel
theorem dL_law_28 : decode cL_law 28 = .ok (.isub, 1) := by decide +kernel
theorem dL_law_29 : decode cL_law 29 = .ok (.if_icmp .gt 1295, 3) := by decide +kernel
theorem dL_law_32 : decode cL_law 32 = .ok (.aload_n 0, 1) := by decide +kernel
theorem dL_law_33 : decode cL_law 33 = .ok (.iload 4, 2) := by decide +kernel
theorem dL_law_35 : decode cL_law 35 = .ok (.iaload, 1) := by decide +kernel
theorem dL_law_36 : decode cL_law 36 = .ok (.bipush 31, 2) := by decide +kernel
theorem dL_law_38 : decode cL_law 38 = .ok (.iand, 1) := by decide +kernel
theorem dL_law_39 : decode cL_law 39 = .ok (.tableswitch 1279 0 18 #[89, 161, 217, 285, 376, 467, 570, 626, 639, 652, 708, 764, 832, 888, 956, 1012, 1080, 1136, 1204], 89) := by decide +kernel
theorem dL_law_128 : decode cL_law 128 = .ok (.aload_n 1, 1) := by decide +kernel
theorem dL_law_129 : decode cL_law 129 = .ok (.aload_n 0, 1) := by decide +kernel
theorem dL_law_130 : decode cL_law 130 = .ok (.iload 4, 2) := by decide +kernel
theorem dL_law_132 : decode cL_law 132 = .ok (.iconst 1, 1) := by decide +kernel
theorem dL_law_133 : decode cL_law 133 = .ok (.iadd, 1) := by decide +kernel
theorem dL_law_134 : decode cL_law 134 = .ok (.iaload, 1) := by decide +kernel
theorem dL_law_135 : decode cL_law 135 = .ok (.ifCond .eq 7, 3) := by decide +kernel
theorem dL_law_138 : decode cL_law 138 = .ok (.iconst 1, 1) := by decide +kernel
theorem dL_law_139 : decode cL_law 139 = .ok (.goto 4, 3) := by decide +kernel
theorem dL_law_142 : decode cL_law 142 = .ok (.iconst 0, 1) := by decide +kernel
theorem dL_law_143 : decode cL_law 143 = .ok (.aload_n 3, 1) := by decide +kernel
theorem dL_law_144 : decode cL_law 144 = .ok (.invokestatic 76, 3) := by decide +kernel
theorem dL_law_147 : decode cL_law 147 = .ok (.istore 5, 2) := by decide +kernel
theorem dL_law_149 : decode cL_law 149 = .ok (.aload_n 2, 1) := by decide +kernel
theorem dL_law_150 : decode cL_law 150 = .ok (.aload_n 0, 1) := by decide +kernel
theorem dL_law_151 : decode cL_law 151 = .ok (.iload 4, 2) := by decide +kernel
theorem dL_law_153 : decode cL_law 153 = .ok (.iconst 1, 1) := by decide +kernel
theorem dL_law_154 : decode cL_law 154 = .ok (.iadd, 1) := by decide +kernel
theorem dL_law_155 : decode cL_law 155 = .ok (.iaload, 1) := by decide +kernel
theorem dL_law_156 : decode cL_law 156 = .ok (.ifCond .eq 7, 3) := by decide +kernel
theorem dL_law_159 : decode cL_law 159 = .ok (.iconst 1, 1) := by decide +kernel
theorem dL_law_160 : decode cL_law 160 = .ok (.goto 4, 3) := by decide +kernel
theorem dL_law_163 : decode cL_law 163 = .ok (.iconst 0, 1) := by decide +kernel
theorem dL_law_164 : decode cL_law 164 = .ok (.invokevirtual 81, 3) := by decide +kernel
theorem dL_law_167 : decode cL_law 167 = .ok (.istore 6, 2) := by decide +kernel
theorem dL_law_169 : decode cL_law 169 = .ok (.aload_n 2, 1) := by decide +kernel
theorem dL_law_170 : decode cL_law 170 = .ok (.invokevirtual 82, 3) := by decide +kernel
theorem dL_law_173 : decode cL_law 173 = .ok (.iload 5, 2) := by decide +kernel
theorem dL_law_175 : decode cL_law 175 = .ok (.if_icmp .eq 5, 3) := by decide +kernel
theorem dL_law_178 : decode cL_law 178 = .ok (.iconst 0, 1) := by decide +kernel
theorem dL_law_179 : decode cL_law 179 = .ok (.ireturn, 1) := by decide +kernel
theorem dL_law_180 : decode cL_law 180 = .ok (.iload 5, 2) := by decide +kernel
theorem dL_law_182 : decode cL_law 182 = .ok (.ifCond .ne 15, 3) := by decide +kernel
theorem dL_law_185 : decode cL_law 185 = .ok (.aload_n 3, 1) := by decide +kernel
theorem dL_law_186 : decode cL_law 186 = .ok (.iconst 0, 1) := by decide +kernel
theorem dL_law_187 : decode cL_law 187 = .ok (.laload, 1) := by decide +kernel
theorem dL_law_188 : decode cL_law 188 = .ok (.iload 6, 2) := by decide +kernel
theorem dL_law_190 : decode cL_law 190 = .ok (.i2l, 1) := by decide +kernel
theorem dL_law_191 : decode cL_law 191 = .ok (.lcmp, 1) := by decide +kernel
theorem dL_law_192 : decode cL_law 192 = .ok (.ifCond .eq 5, 3) := by decide +kernel
theorem dL_law_195 : decode cL_law 195 = .ok (.iconst 0, 1) := by decide +kernel
theorem dL_law_196 : decode cL_law 196 = .ok (.ireturn, 1) := by decide +kernel
theorem dL_law_197 : decode cL_law 197 = .ok (.goto 1121, 3) := by decide +kernel
theorem dL_law_200 : decode cL_law 200 = .ok (.aload_n 1, 1) := by decide +kernel
theorem dL_law_201 : decode cL_law 201 = .ok (.aload_n 0, 1) := by decide +kernel
theorem dL_law_202 : decode cL_law 202 = .ok (.iload 4, 2) := by decide +kernel
theorem dL_law_204 : decode cL_law 204 = .ok (.iconst 1, 1) := by decide +kernel
theorem dL_law_205 : decode cL_law 205 = .ok (.iadd, 1) := by decide +kernel
theorem dL_law_206 : decode cL_law 206 = .ok (.iaload, 1) := by decide +kernel
theorem dL_law_207 : decode cL_law 207 = .ok (.aload_n 3, 1) := by decide +kernel
theorem dL_law_208 : decode cL_law 208 = .ok (.invokestatic 86, 3) := by decide +kernel
theorem dL_law_211 : decode cL_law 211 = .ok (.istore 5, 2) := by decide +kernel
theorem dL_law_213 : decode cL_law 213 = .ok (.aload_n 2, 1) := by decide +kernel
theorem dL_law_214 : decode cL_law 214 = .ok (.aload_n 0, 1) := by decide +kernel
theorem dL_law_215 : decode cL_law 215 = .ok (.iload 4, 2) := by decide +kernel
theorem dL_law_217 : decode cL_law 217 = .ok (.iconst 1, 1) := by decide +kernel
theorem dL_law_218 : decode cL_law 218 = .ok (.iadd, 1) := by decide +kernel
theorem dL_law_219 : decode cL_law 219 = .ok (.iaload, 1) := by decide +kernel
theorem dL_law_220 : decode cL_law 220 = .ok (.invokevirtual 89, 3) := by decide +kernel
theorem dL_law_223 : decode cL_law 223 = .ok (.istore 6, 2) := by decide +kernel
theorem dL_law_225 : decode cL_law 225 = .ok (.aload_n 2, 1) := by decide +kernel
theorem dL_law_226 : decode cL_law 226 = .ok (.invokevirtual 82, 3) := by decide +kernel
theorem dL_law_229 : decode cL_law 229 = .ok (.iload 5, 2) := by decide +kernel
theorem dL_law_231 : decode cL_law 231 = .ok (.if_icmp .eq 5, 3) := by decide +kernel
theorem dL_law_234 : decode cL_law 234 = .ok (.iconst 0, 1) := by decide +kernel
theorem dL_law_235 : decode cL_law 235 = .ok (.ireturn, 1) := by decide +kernel
theorem dL_law_236 : decode cL_law 236 = .ok (.iload 5, 2) := by decide +kernel
theorem dL_law_238 : decode cL_law 238 = .ok (.ifCond .ne 15, 3) := by decide +kernel
theorem dL_law_241 : decode cL_law 241 = .ok (.aload_n 3, 1) := by decide +kernel
theorem dL_law_242 : decode cL_law 242 = .ok (.iconst 0, 1) := by decide +kernel
theorem dL_law_243 : decode cL_law 243 = .ok (.laload, 1) := by decide +kernel
theorem dL_law_244 : decode cL_law 244 = .ok (.iload 6, 2) := by decide +kernel
theorem dL_law_246 : decode cL_law 246 = .ok (.i2l, 1) := by decide +kernel
theorem dL_law_247 : decode cL_law 247 = .ok (.lcmp, 1) := by decide +kernel
theorem dL_law_248 : decode cL_law 248 = .ok (.ifCond .eq 5, 3) := by decide +kernel
theorem dL_law_251 : decode cL_law 251 = .ok (.iconst 0, 1) := by decide +kernel
theorem dL_law_252 : decode cL_law 252 = .ok (.ireturn, 1) := by decide +kernel
theorem dL_law_253 : decode cL_law 253 = .ok (.goto 1065, 3) := by decide +kernel
theorem dL_law_256 : decode cL_law 256 = .ok (.aload_n 1, 1) := by decide +kernel
theorem dL_law_257 : decode cL_law 257 = .ok (.aload_n 0, 1) := by decide +kernel
theorem dL_law_258 : decode cL_law 258 = .ok (.iload 4, 2) := by decide +kernel
theorem dL_law_260 : decode cL_law 260 = .ok (.iconst 1, 1) := by decide +kernel
theorem dL_law_261 : decode cL_law 261 = .ok (.iadd, 1) := by decide +kernel
theorem dL_law_262 : decode cL_law 262 = .ok (.iaload, 1) := by decide +kernel
theorem dL_law_263 : decode cL_law 263 = .ok (.aload_n 0, 1) := by decide +kernel
theorem dL_law_264 : decode cL_law 264 = .ok (.iload 4, 2) := by decide +kernel
theorem dL_law_266 : decode cL_law 266 = .ok (.iconst 2, 1) := by decide +kernel
theorem dL_law_267 : decode cL_law 267 = .ok (.iadd, 1) := by decide +kernel
theorem dL_law_268 : decode cL_law 268 = .ok (.iaload, 1) := by decide +kernel
theorem dL_law_269 : decode cL_law 269 = .ok (.aload_n 3, 1) := by decide +kernel
theorem dL_law_270 : decode cL_law 270 = .ok (.invokestatic 90, 3) := by decide +kernel
theorem dL_law_273 : decode cL_law 273 = .ok (.istore 5, 2) := by decide +kernel
theorem dL_law_275 : decode cL_law 275 = .ok (.aload_n 2, 1) := by decide +kernel
theorem dL_law_276 : decode cL_law 276 = .ok (.aload_n 0, 1) := by decide +kernel
theorem dL_law_277 : decode cL_law 277 = .ok (.iload 4, 2) := by decide +kernel
theorem dL_law_279 : decode cL_law 279 = .ok (.iconst 1, 1) := by decide +kernel
theorem dL_law_280 : decode cL_law 280 = .ok (.iadd, 1) := by decide +kernel
theorem dL_law_281 : decode cL_law 281 = .ok (.iaload, 1) := by decide +kernel
theorem dL_law_282 : decode cL_law 282 = .ok (.aload_n 0, 1) := by decide +kernel
theorem dL_law_283 : decode cL_law 283 = .ok (.iload 4, 2) := by decide +kernel
theorem dL_law_285 : decode cL_law 285 = .ok (.iconst 2, 1) := by decide +kernel
theorem dL_law_286 : decode cL_law 286 = .ok (.iadd, 1) := by decide +kernel
theorem dL_law_287 : decode cL_law 287 = .ok (.iaload, 1) := by decide +kernel
theorem dL_law_288 : decode cL_law 288 = .ok (.invokevirtual 93, 3) := by decide +kernel
theorem dL_law_291 : decode cL_law 291 = .ok (.istore 6, 2) := by decide +kernel
theorem dL_law_293 : decode cL_law 293 = .ok (.aload_n 2, 1) := by decide +kernel
theorem dL_law_294 : decode cL_law 294 = .ok (.invokevirtual 82, 3) := by decide +kernel
theorem dL_law_297 : decode cL_law 297 = .ok (.iload 5, 2) := by decide +kernel
theorem dL_law_299 : decode cL_law 299 = .ok (.if_icmp .eq 5, 3) := by decide +kernel
theorem dL_law_302 : decode cL_law 302 = .ok (.iconst 0, 1) := by decide +kernel
theorem dL_law_303 : decode cL_law 303 = .ok (.ireturn, 1) := by decide +kernel
theorem dL_law_304 : decode cL_law 304 = .ok (.iload 5, 2) := by decide +kernel
theorem dL_law_306 : decode cL_law 306 = .ok (.ifCond .ne 15, 3) := by decide +kernel
theorem dL_law_309 : decode cL_law 309 = .ok (.aload_n 3, 1) := by decide +kernel
theorem dL_law_310 : decode cL_law 310 = .ok (.iconst 0, 1) := by decide +kernel
theorem dL_law_311 : decode cL_law 311 = .ok (.laload, 1) := by decide +kernel
theorem dL_law_312 : decode cL_law 312 = .ok (.iload 6, 2) := by decide +kernel
theorem dL_law_314 : decode cL_law 314 = .ok (.i2l, 1) := by decide +kernel
theorem dL_law_315 : decode cL_law 315 = .ok (.lcmp, 1) := by decide +kernel
theorem dL_law_316 : decode cL_law 316 = .ok (.ifCond .eq 5, 3) := by decide +kernel
theorem dL_law_319 : decode cL_law 319 = .ok (.iconst 0, 1) := by decide +kernel
theorem dL_law_320 : decode cL_law 320 = .ok (.ireturn, 1) := by decide +kernel
theorem dL_law_321 : decode cL_law 321 = .ok (.goto 997, 3) := by decide +kernel
theorem dL_law_324 : decode cL_law 324 = .ok (.aload_n 1, 1) := by decide +kernel
theorem dL_law_325 : decode cL_law 325 = .ok (.aload_n 0, 1) := by decide +kernel
theorem dL_law_326 : decode cL_law 326 = .ok (.iload 4, 2) := by decide +kernel
theorem dL_law_328 : decode cL_law 328 = .ok (.iconst 1, 1) := by decide +kernel
theorem dL_law_329 : decode cL_law 329 = .ok (.iadd, 1) := by decide +kernel
theorem dL_law_330 : decode cL_law 330 = .ok (.iaload, 1) := by decide +kernel
theorem dL_law_331 : decode cL_law 331 = .ok (.aload_n 0, 1) := by decide +kernel
theorem dL_law_332 : decode cL_law 332 = .ok (.iload 4, 2) := by decide +kernel
theorem dL_law_334 : decode cL_law 334 = .ok (.iconst 2, 1) := by decide +kernel
theorem dL_law_335 : decode cL_law 335 = .ok (.iadd, 1) := by decide +kernel
theorem dL_law_336 : decode cL_law 336 = .ok (.iaload, 1) := by decide +kernel
theorem dL_law_337 : decode cL_law 337 = .ok (.ifCond .eq 7, 3) := by decide +kernel
theorem dL_law_340 : decode cL_law 340 = .ok (.iconst 1, 1) := by decide +kernel
theorem dL_law_341 : decode cL_law 341 = .ok (.goto 4, 3) := by decide +kernel
theorem dL_law_344 : decode cL_law 344 = .ok (.iconst 0, 1) := by decide +kernel
theorem dL_law_345 : decode cL_law 345 = .ok (.aload_n 3, 1) := by decide +kernel
theorem dL_law_346 : decode cL_law 346 = .ok (.invokestatic 94, 3) := by decide +kernel
theorem dL_law_349 : decode cL_law 349 = .ok (.istore 5, 2) := by decide +kernel
theorem dL_law_351 : decode cL_law 351 = .ok (.aload_n 2, 1) := by decide +kernel
theorem dL_law_352 : decode cL_law 352 = .ok (.aload_n 0, 1) := by decide +kernel
theorem dL_law_353 : decode cL_law 353 = .ok (.iload 4, 2) := by decide +kernel
theorem dL_law_355 : decode cL_law 355 = .ok (.iconst 1, 1) := by decide +kernel
theorem dL_law_356 : decode cL_law 356 = .ok (.iadd, 1) := by decide +kernel
theorem dL_law_357 : decode cL_law 357 = .ok (.iaload, 1) := by decide +kernel
theorem dL_law_358 : decode cL_law 358 = .ok (.aload_n 0, 1) := by decide +kernel
theorem dL_law_359 : decode cL_law 359 = .ok (.iload 4, 2) := by decide +kernel
theorem dL_law_361 : decode cL_law 361 = .ok (.iconst 2, 1) := by decide +kernel
theorem dL_law_362 : decode cL_law 362 = .ok (.iadd, 1) := by decide +kernel
theorem dL_law_363 : decode cL_law 363 = .ok (.iaload, 1) := by decide +kernel
theorem dL_law_364 : decode cL_law 364 = .ok (.ifCond .eq 7, 3) := by decide +kernel
theorem dL_law_367 : decode cL_law 367 = .ok (.iconst 1, 1) := by decide +kernel
theorem dL_law_368 : decode cL_law 368 = .ok (.goto 4, 3) := by decide +kernel
theorem dL_law_371 : decode cL_law 371 = .ok (.iconst 0, 1) := by decide +kernel
theorem dL_law_372 : decode cL_law 372 = .ok (.invokevirtual 97, 3) := by decide +kernel
theorem dL_law_375 : decode cL_law 375 = .ok (.istore 6, 2) := by decide +kernel
theorem dL_law_377 : decode cL_law 377 = .ok (.aload_n 2, 1) := by decide +kernel
theorem dL_law_378 : decode cL_law 378 = .ok (.invokevirtual 82, 3) := by decide +kernel
theorem dL_law_381 : decode cL_law 381 = .ok (.iload 5, 2) := by decide +kernel
theorem dL_law_383 : decode cL_law 383 = .ok (.if_icmp .eq 5, 3) := by decide +kernel
theorem dL_law_386 : decode cL_law 386 = .ok (.iconst 0, 1) := by decide +kernel
theorem dL_law_387 : decode cL_law 387 = .ok (.ireturn, 1) := by decide +kernel
theorem dL_law_388 : decode cL_law 388 = .ok (.iload 5, 2) := by decide +kernel
theorem dL_law_390 : decode cL_law 390 = .ok (.ifCond .ne 22, 3) := by decide +kernel
theorem dL_law_393 : decode cL_law 393 = .ok (.aload_n 3, 1) := by decide +kernel
theorem dL_law_394 : decode cL_law 394 = .ok (.iconst 0, 1) := by decide +kernel
theorem dL_law_395 : decode cL_law 395 = .ok (.laload, 1) := by decide +kernel
theorem dL_law_396 : decode cL_law 396 = .ok (.iload 6, 2) := by decide +kernel
theorem dL_law_398 : decode cL_law 398 = .ok (.ifCond .eq 7, 3) := by decide +kernel
theorem dL_law_401 : decode cL_law 401 = .ok (.lconst 1, 1) := by decide +kernel
theorem dL_law_402 : decode cL_law 402 = .ok (.goto 4, 3) := by decide +kernel
theorem dL_law_405 : decode cL_law 405 = .ok (.lconst 0, 1) := by decide +kernel
theorem dL_law_406 : decode cL_law 406 = .ok (.lcmp, 1) := by decide +kernel
theorem dL_law_407 : decode cL_law 407 = .ok (.ifCond .eq 5, 3) := by decide +kernel
theorem dL_law_410 : decode cL_law 410 = .ok (.iconst 0, 1) := by decide +kernel
theorem dL_law_411 : decode cL_law 411 = .ok (.ireturn, 1) := by decide +kernel
theorem dL_law_412 : decode cL_law 412 = .ok (.goto 906, 3) := by decide +kernel
theorem dL_law_415 : decode cL_law 415 = .ok (.aload_n 1, 1) := by decide +kernel
theorem dL_law_416 : decode cL_law 416 = .ok (.aload_n 0, 1) := by decide +kernel
theorem dL_law_417 : decode cL_law 417 = .ok (.iload 4, 2) := by decide +kernel
theorem dL_law_419 : decode cL_law 419 = .ok (.iconst 1, 1) := by decide +kernel
theorem dL_law_420 : decode cL_law 420 = .ok (.iadd, 1) := by decide +kernel
theorem dL_law_421 : decode cL_law 421 = .ok (.iaload, 1) := by decide +kernel
theorem dL_law_422 : decode cL_law 422 = .ok (.aload_n 0, 1) := by decide +kernel
theorem dL_law_423 : decode cL_law 423 = .ok (.iload 4, 2) := by decide +kernel
theorem dL_law_425 : decode cL_law 425 = .ok (.iconst 2, 1) := by decide +kernel
theorem dL_law_426 : decode cL_law 426 = .ok (.iadd, 1) := by decide +kernel
theorem dL_law_427 : decode cL_law 427 = .ok (.iaload, 1) := by decide +kernel
theorem dL_law_428 : decode cL_law 428 = .ok (.ifCond .eq 7, 3) := by decide +kernel
theorem dL_law_431 : decode cL_law 431 = .ok (.iconst 1, 1) := by decide +kernel
theorem dL_law_432 : decode cL_law 432 = .ok (.goto 4, 3) := by decide +kernel
theorem dL_law_435 : decode cL_law 435 = .ok (.iconst 0, 1) := by decide +kernel
theorem dL_law_436 : decode cL_law 436 = .ok (.aload_n 3, 1) := by decide +kernel
theorem dL_law_437 : decode cL_law 437 = .ok (.invokestatic 98, 3) := by decide +kernel
theorem dL_law_440 : decode cL_law 440 = .ok (.istore 5, 2) := by decide +kernel
theorem dL_law_442 : decode cL_law 442 = .ok (.aload_n 2, 1) := by decide +kernel
theorem dL_law_443 : decode cL_law 443 = .ok (.aload_n 0, 1) := by decide +kernel
theorem dL_law_444 : decode cL_law 444 = .ok (.iload 4, 2) := by decide +kernel
theorem dL_law_446 : decode cL_law 446 = .ok (.iconst 1, 1) := by decide +kernel
theorem dL_law_447 : decode cL_law 447 = .ok (.iadd, 1) := by decide +kernel
theorem dL_law_448 : decode cL_law 448 = .ok (.iaload, 1) := by decide +kernel
theorem dL_law_449 : decode cL_law 449 = .ok (.aload_n 0, 1) := by decide +kernel
theorem dL_law_450 : decode cL_law 450 = .ok (.iload 4, 2) := by decide +kernel
theorem dL_law_452 : decode cL_law 452 = .ok (.iconst 2, 1) := by decide +kernel
theorem dL_law_453 : decode cL_law 453 = .ok (.iadd, 1) := by decide +kernel
theorem dL_law_454 : decode cL_law 454 = .ok (.iaload, 1) := by decide +kernel
theorem dL_law_455 : decode cL_law 455 = .ok (.ifCond .eq 7, 3) := by decide +kernel
theorem dL_law_458 : decode cL_law 458 = .ok (.iconst 1, 1) := by decide +kernel
theorem dL_law_459 : decode cL_law 459 = .ok (.goto 4, 3) := by decide +kernel
theorem dL_law_462 : decode cL_law 462 = .ok (.iconst 0, 1) := by decide +kernel
theorem dL_law_463 : decode cL_law 463 = .ok (.invokevirtual 100, 3) := by decide +kernel
theorem dL_law_466 : decode cL_law 466 = .ok (.istore 6, 2) := by decide +kernel
theorem dL_law_468 : decode cL_law 468 = .ok (.aload_n 2, 1) := by decide +kernel
theorem dL_law_469 : decode cL_law 469 = .ok (.invokevirtual 82, 3) := by decide +kernel
theorem dL_law_472 : decode cL_law 472 = .ok (.iload 5, 2) := by decide +kernel
theorem dL_law_474 : decode cL_law 474 = .ok (.if_icmp .eq 5, 3) := by decide +kernel
theorem dL_law_477 : decode cL_law 477 = .ok (.iconst 0, 1) := by decide +kernel
theorem dL_law_478 : decode cL_law 478 = .ok (.ireturn, 1) := by decide +kernel
theorem dL_law_479 : decode cL_law 479 = .ok (.iload 5, 2) := by decide +kernel
theorem dL_law_481 : decode cL_law 481 = .ok (.ifCond .ne 22, 3) := by decide +kernel
theorem dL_law_484 : decode cL_law 484 = .ok (.aload_n 3, 1) := by decide +kernel
theorem dL_law_485 : decode cL_law 485 = .ok (.iconst 0, 1) := by decide +kernel
theorem dL_law_486 : decode cL_law 486 = .ok (.laload, 1) := by decide +kernel
theorem dL_law_487 : decode cL_law 487 = .ok (.iload 6, 2) := by decide +kernel
theorem dL_law_489 : decode cL_law 489 = .ok (.ifCond .eq 7, 3) := by decide +kernel
theorem dL_law_492 : decode cL_law 492 = .ok (.lconst 1, 1) := by decide +kernel
theorem dL_law_493 : decode cL_law 493 = .ok (.goto 4, 3) := by decide +kernel
theorem dL_law_496 : decode cL_law 496 = .ok (.lconst 0, 1) := by decide +kernel
theorem dL_law_497 : decode cL_law 497 = .ok (.lcmp, 1) := by decide +kernel
theorem dL_law_498 : decode cL_law 498 = .ok (.ifCond .eq 5, 3) := by decide +kernel
theorem dL_law_501 : decode cL_law 501 = .ok (.iconst 0, 1) := by decide +kernel
theorem dL_law_502 : decode cL_law 502 = .ok (.ireturn, 1) := by decide +kernel
theorem dL_law_503 : decode cL_law 503 = .ok (.goto 815, 3) := by decide +kernel
theorem dL_law_506 : decode cL_law 506 = .ok (.aload_n 1, 1) := by decide +kernel
theorem dL_law_507 : decode cL_law 507 = .ok (.aload_n 0, 1) := by decide +kernel
theorem dL_law_508 : decode cL_law 508 = .ok (.iload 4, 2) := by decide +kernel
theorem dL_law_510 : decode cL_law 510 = .ok (.iconst 1, 1) := by decide +kernel
theorem dL_law_511 : decode cL_law 511 = .ok (.iadd, 1) := by decide +kernel
theorem dL_law_512 : decode cL_law 512 = .ok (.iaload, 1) := by decide +kernel
theorem dL_law_513 : decode cL_law 513 = .ok (.aload_n 0, 1) := by decide +kernel
theorem dL_law_514 : decode cL_law 514 = .ok (.iload 4, 2) := by decide +kernel
theorem dL_law_516 : decode cL_law 516 = .ok (.iconst 2, 1) := by decide +kernel
theorem dL_law_517 : decode cL_law 517 = .ok (.iadd, 1) := by decide +kernel
theorem dL_law_518 : decode cL_law 518 = .ok (.iaload, 1) := by decide +kernel
theorem dL_law_519 : decode cL_law 519 = .ok (.aload_n 0, 1) := by decide +kernel
theorem dL_law_520 : decode cL_law 520 = .ok (.iload 4, 2) := by decide +kernel
theorem dL_law_522 : decode cL_law 522 = .ok (.iconst 3, 1) := by decide +kernel
theorem dL_law_523 : decode cL_law 523 = .ok (.iadd, 1) := by decide +kernel
theorem dL_law_524 : decode cL_law 524 = .ok (.iaload, 1) := by decide +kernel
theorem dL_law_525 : decode cL_law 525 = .ok (.ifCond .eq 7, 3) := by decide +kernel
theorem dL_law_528 : decode cL_law 528 = .ok (.iconst 1, 1) := by decide +kernel
theorem dL_law_529 : decode cL_law 529 = .ok (.goto 4, 3) := by decide +kernel
theorem dL_law_532 : decode cL_law 532 = .ok (.iconst 0, 1) := by decide +kernel
theorem dL_law_533 : decode cL_law 533 = .ok (.aload_n 3, 1) := by decide +kernel
theorem dL_law_534 : decode cL_law 534 = .ok (.invokestatic 101, 3) := by decide +kernel
theorem dL_law_537 : decode cL_law 537 = .ok (.istore 5, 2) := by decide +kernel
theorem dL_law_539 : decode cL_law 539 = .ok (.aload_n 2, 1) := by decide +kernel
theorem dL_law_540 : decode cL_law 540 = .ok (.aload_n 0, 1) := by decide +kernel
theorem dL_law_541 : decode cL_law 541 = .ok (.iload 4, 2) := by decide +kernel
theorem dL_law_543 : decode cL_law 543 = .ok (.iconst 1, 1) := by decide +kernel
theorem dL_law_544 : decode cL_law 544 = .ok (.iadd, 1) := by decide +kernel
theorem dL_law_545 : decode cL_law 545 = .ok (.iaload, 1) := by decide +kernel
theorem dL_law_546 : decode cL_law 546 = .ok (.aload_n 0, 1) := by decide +kernel
theorem dL_law_547 : decode cL_law 547 = .ok (.iload 4, 2) := by decide +kernel
theorem dL_law_549 : decode cL_law 549 = .ok (.iconst 2, 1) := by decide +kernel
theorem dL_law_550 : decode cL_law 550 = .ok (.iadd, 1) := by decide +kernel
theorem dL_law_551 : decode cL_law 551 = .ok (.iaload, 1) := by decide +kernel
theorem dL_law_552 : decode cL_law 552 = .ok (.aload_n 0, 1) := by decide +kernel
theorem dL_law_553 : decode cL_law 553 = .ok (.iload 4, 2) := by decide +kernel
theorem dL_law_555 : decode cL_law 555 = .ok (.iconst 3, 1) := by decide +kernel
theorem dL_law_556 : decode cL_law 556 = .ok (.iadd, 1) := by decide +kernel
theorem dL_law_557 : decode cL_law 557 = .ok (.iaload, 1) := by decide +kernel
theorem dL_law_558 : decode cL_law 558 = .ok (.ifCond .eq 7, 3) := by decide +kernel
theorem dL_law_561 : decode cL_law 561 = .ok (.iconst 1, 1) := by decide +kernel
theorem dL_law_562 : decode cL_law 562 = .ok (.goto 4, 3) := by decide +kernel
theorem dL_law_565 : decode cL_law 565 = .ok (.iconst 0, 1) := by decide +kernel
theorem dL_law_566 : decode cL_law 566 = .ok (.invokevirtual 104, 3) := by decide +kernel
theorem dL_law_569 : decode cL_law 569 = .ok (.istore 6, 2) := by decide +kernel
theorem dL_law_571 : decode cL_law 571 = .ok (.aload_n 2, 1) := by decide +kernel
theorem dL_law_572 : decode cL_law 572 = .ok (.invokevirtual 82, 3) := by decide +kernel
theorem dL_law_575 : decode cL_law 575 = .ok (.iload 5, 2) := by decide +kernel
theorem dL_law_577 : decode cL_law 577 = .ok (.if_icmp .eq 5, 3) := by decide +kernel
theorem dL_law_580 : decode cL_law 580 = .ok (.iconst 0, 1) := by decide +kernel
theorem dL_law_581 : decode cL_law 581 = .ok (.ireturn, 1) := by decide +kernel
theorem dL_law_582 : decode cL_law 582 = .ok (.iload 5, 2) := by decide +kernel
theorem dL_law_584 : decode cL_law 584 = .ok (.ifCond .ne 22, 3) := by decide +kernel
theorem dL_law_587 : decode cL_law 587 = .ok (.aload_n 3, 1) := by decide +kernel
theorem dL_law_588 : decode cL_law 588 = .ok (.iconst 0, 1) := by decide +kernel
theorem dL_law_589 : decode cL_law 589 = .ok (.laload, 1) := by decide +kernel
theorem dL_law_590 : decode cL_law 590 = .ok (.iload 6, 2) := by decide +kernel
theorem dL_law_592 : decode cL_law 592 = .ok (.ifCond .eq 7, 3) := by decide +kernel
theorem dL_law_595 : decode cL_law 595 = .ok (.lconst 1, 1) := by decide +kernel
theorem dL_law_596 : decode cL_law 596 = .ok (.goto 4, 3) := by decide +kernel
theorem dL_law_599 : decode cL_law 599 = .ok (.lconst 0, 1) := by decide +kernel
theorem dL_law_600 : decode cL_law 600 = .ok (.lcmp, 1) := by decide +kernel
theorem dL_law_601 : decode cL_law 601 = .ok (.ifCond .eq 5, 3) := by decide +kernel
theorem dL_law_604 : decode cL_law 604 = .ok (.iconst 0, 1) := by decide +kernel
theorem dL_law_605 : decode cL_law 605 = .ok (.ireturn, 1) := by decide +kernel
theorem dL_law_606 : decode cL_law 606 = .ok (.goto 712, 3) := by decide +kernel
theorem dL_law_609 : decode cL_law 609 = .ok (.aload_n 1, 1) := by decide +kernel
theorem dL_law_610 : decode cL_law 610 = .ok (.aload_n 0, 1) := by decide +kernel
theorem dL_law_611 : decode cL_law 611 = .ok (.iload 4, 2) := by decide +kernel
theorem dL_law_613 : decode cL_law 613 = .ok (.iconst 1, 1) := by decide +kernel
theorem dL_law_614 : decode cL_law 614 = .ok (.iadd, 1) := by decide +kernel
theorem dL_law_615 : decode cL_law 615 = .ok (.iaload, 1) := by decide +kernel
theorem dL_law_616 : decode cL_law 616 = .ok (.aload_n 3, 1) := by decide +kernel
theorem dL_law_617 : decode cL_law 617 = .ok (.invokestatic 105, 3) := by decide +kernel
theorem dL_law_620 : decode cL_law 620 = .ok (.istore 5, 2) := by decide +kernel
theorem dL_law_622 : decode cL_law 622 = .ok (.aload_n 2, 1) := by decide +kernel
theorem dL_law_623 : decode cL_law 623 = .ok (.aload_n 0, 1) := by decide +kernel
theorem dL_law_624 : decode cL_law 624 = .ok (.iload 4, 2) := by decide +kernel
theorem dL_law_626 : decode cL_law 626 = .ok (.iconst 1, 1) := by decide +kernel
theorem dL_law_627 : decode cL_law 627 = .ok (.iadd, 1) := by decide +kernel
theorem dL_law_628 : decode cL_law 628 = .ok (.iaload, 1) := by decide +kernel
theorem dL_law_629 : decode cL_law 629 = .ok (.invokevirtual 107, 3) := by decide +kernel
theorem dL_law_632 : decode cL_law 632 = .ok (.istore 6, 2) := by decide +kernel
theorem dL_law_634 : decode cL_law 634 = .ok (.aload_n 2, 1) := by decide +kernel
theorem dL_law_635 : decode cL_law 635 = .ok (.invokevirtual 82, 3) := by decide +kernel
theorem dL_law_638 : decode cL_law 638 = .ok (.iload 5, 2) := by decide +kernel
theorem dL_law_640 : decode cL_law 640 = .ok (.if_icmp .eq 5, 3) := by decide +kernel
theorem dL_law_643 : decode cL_law 643 = .ok (.iconst 0, 1) := by decide +kernel
theorem dL_law_644 : decode cL_law 644 = .ok (.ireturn, 1) := by decide +kernel
theorem dL_law_645 : decode cL_law 645 = .ok (.iload 5, 2) := by decide +kernel
theorem dL_law_647 : decode cL_law 647 = .ok (.ifCond .ne 15, 3) := by decide +kernel
theorem dL_law_650 : decode cL_law 650 = .ok (.aload_n 3, 1) := by decide +kernel
theorem dL_law_651 : decode cL_law 651 = .ok (.iconst 0, 1) := by decide +kernel
theorem dL_law_652 : decode cL_law 652 = .ok (.laload, 1) := by decide +kernel
theorem dL_law_653 : decode cL_law 653 = .ok (.iload 6, 2) := by decide +kernel
theorem dL_law_655 : decode cL_law 655 = .ok (.i2l, 1) := by decide +kernel
theorem dL_law_656 : decode cL_law 656 = .ok (.lcmp, 1) := by decide +kernel
theorem dL_law_657 : decode cL_law 657 = .ok (.ifCond .eq 5, 3) := by decide +kernel
theorem dL_law_660 : decode cL_law 660 = .ok (.iconst 0, 1) := by decide +kernel
theorem dL_law_661 : decode cL_law 661 = .ok (.ireturn, 1) := by decide +kernel
theorem dL_law_662 : decode cL_law 662 = .ok (.goto 656, 3) := by decide +kernel
theorem dL_law_665 : decode cL_law 665 = .ok (.aload_n 1, 1) := by decide +kernel
theorem dL_law_666 : decode cL_law 666 = .ok (.invokevirtual 108, 3) := by decide +kernel
theorem dL_law_669 : decode cL_law 669 = .ok (.aload_n 2, 1) := by decide +kernel
theorem dL_law_670 : decode cL_law 670 = .ok (.invokevirtual 111, 3) := by decide +kernel
theorem dL_law_673 : decode cL_law 673 = .ok (.if_icmp .eq 645, 3) := by decide +kernel
theorem dL_law_676 : decode cL_law 676 = .ok (.iconst 0, 1) := by decide +kernel
theorem dL_law_677 : decode cL_law 677 = .ok (.ireturn, 1) := by decide +kernel
theorem dL_law_678 : decode cL_law 678 = .ok (.aload_n 1, 1) := by decide +kernel
theorem dL_law_679 : decode cL_law 679 = .ok (.invokevirtual 112, 3) := by decide +kernel
theorem dL_law_682 : decode cL_law 682 = .ok (.aload_n 2, 1) := by decide +kernel
theorem dL_law_683 : decode cL_law 683 = .ok (.invokevirtual 115, 3) := by decide +kernel
theorem dL_law_686 : decode cL_law 686 = .ok (.if_icmp .eq 632, 3) := by decide +kernel
theorem dL_law_689 : decode cL_law 689 = .ok (.iconst 0, 1) := by decide +kernel
theorem dL_law_690 : decode cL_law 690 = .ok (.ireturn, 1) := by decide +kernel
theorem dL_law_691 : decode cL_law 691 = .ok (.aload_n 1, 1) := by decide +kernel
theorem dL_law_692 : decode cL_law 692 = .ok (.aload_n 0, 1) := by decide +kernel
theorem dL_law_693 : decode cL_law 693 = .ok (.iload 4, 2) := by decide +kernel
theorem dL_law_695 : decode cL_law 695 = .ok (.iconst 1, 1) := by decide +kernel
theorem dL_law_696 : decode cL_law 696 = .ok (.iadd, 1) := by decide +kernel
theorem dL_law_697 : decode cL_law 697 = .ok (.iaload, 1) := by decide +kernel
theorem dL_law_698 : decode cL_law 698 = .ok (.aload_n 3, 1) := by decide +kernel
theorem dL_law_699 : decode cL_law 699 = .ok (.invokestatic 116, 3) := by decide +kernel
theorem dL_law_702 : decode cL_law 702 = .ok (.istore 5, 2) := by decide +kernel
theorem dL_law_704 : decode cL_law 704 = .ok (.aload_n 2, 1) := by decide +kernel
theorem dL_law_705 : decode cL_law 705 = .ok (.aload_n 0, 1) := by decide +kernel
theorem dL_law_706 : decode cL_law 706 = .ok (.iload 4, 2) := by decide +kernel
theorem dL_law_708 : decode cL_law 708 = .ok (.iconst 1, 1) := by decide +kernel
theorem dL_law_709 : decode cL_law 709 = .ok (.iadd, 1) := by decide +kernel
theorem dL_law_710 : decode cL_law 710 = .ok (.iaload, 1) := by decide +kernel
theorem dL_law_711 : decode cL_law 711 = .ok (.invokevirtual 118, 3) := by decide +kernel
theorem dL_law_714 : decode cL_law 714 = .ok (.istore 6, 2) := by decide +kernel
theorem dL_law_716 : decode cL_law 716 = .ok (.aload_n 2, 1) := by decide +kernel
theorem dL_law_717 : decode cL_law 717 = .ok (.invokevirtual 82, 3) := by decide +kernel
theorem dL_law_720 : decode cL_law 720 = .ok (.iload 5, 2) := by decide +kernel
theorem dL_law_722 : decode cL_law 722 = .ok (.if_icmp .eq 5, 3) := by decide +kernel
theorem dL_law_725 : decode cL_law 725 = .ok (.iconst 0, 1) := by decide +kernel
theorem dL_law_726 : decode cL_law 726 = .ok (.ireturn, 1) := by decide +kernel
theorem dL_law_727 : decode cL_law 727 = .ok (.iload 5, 2) := by decide +kernel
theorem dL_law_729 : decode cL_law 729 = .ok (.ifCond .ne 15, 3) := by decide +kernel
theorem dL_law_732 : decode cL_law 732 = .ok (.aload_n 3, 1) := by decide +kernel
theorem dL_law_733 : decode cL_law 733 = .ok (.iconst 0, 1) := by decide +kernel
theorem dL_law_734 : decode cL_law 734 = .ok (.laload, 1) := by decide +kernel
theorem dL_law_735 : decode cL_law 735 = .ok (.iload 6, 2) := by decide +kernel
theorem dL_law_737 : decode cL_law 737 = .ok (.i2l, 1) := by decide +kernel
theorem dL_law_738 : decode cL_law 738 = .ok (.lcmp, 1) := by decide +kernel
theorem dL_law_739 : decode cL_law 739 = .ok (.ifCond .eq 5, 3) := by decide +kernel
theorem dL_law_742 : decode cL_law 742 = .ok (.iconst 0, 1) := by decide +kernel
theorem dL_law_743 : decode cL_law 743 = .ok (.ireturn, 1) := by decide +kernel
theorem dL_law_744 : decode cL_law 744 = .ok (.goto 574, 3) := by decide +kernel
theorem dL_law_747 : decode cL_law 747 = .ok (.aload_n 1, 1) := by decide +kernel
theorem dL_law_748 : decode cL_law 748 = .ok (.aload_n 0, 1) := by decide +kernel
theorem dL_law_749 : decode cL_law 749 = .ok (.iload 4, 2) := by decide +kernel
theorem dL_law_751 : decode cL_law 751 = .ok (.iconst 1, 1) := by decide +kernel
theorem dL_law_752 : decode cL_law 752 = .ok (.iadd, 1) := by decide +kernel
theorem dL_law_753 : decode cL_law 753 = .ok (.iaload, 1) := by decide +kernel
theorem dL_law_754 : decode cL_law 754 = .ok (.aload_n 3, 1) := by decide +kernel
theorem dL_law_755 : decode cL_law 755 = .ok (.invokestatic 119, 3) := by decide +kernel
theorem dL_law_758 : decode cL_law 758 = .ok (.istore 5, 2) := by decide +kernel
theorem dL_law_760 : decode cL_law 760 = .ok (.aload_n 2, 1) := by decide +kernel
theorem dL_law_761 : decode cL_law 761 = .ok (.aload_n 0, 1) := by decide +kernel
theorem dL_law_762 : decode cL_law 762 = .ok (.iload 4, 2) := by decide +kernel
theorem dL_law_764 : decode cL_law 764 = .ok (.iconst 1, 1) := by decide +kernel
theorem dL_law_765 : decode cL_law 765 = .ok (.iadd, 1) := by decide +kernel
theorem dL_law_766 : decode cL_law 766 = .ok (.iaload, 1) := by decide +kernel
theorem dL_law_767 : decode cL_law 767 = .ok (.invokevirtual 121, 3) := by decide +kernel
theorem dL_law_770 : decode cL_law 770 = .ok (.istore 6, 2) := by decide +kernel
theorem dL_law_772 : decode cL_law 772 = .ok (.aload_n 2, 1) := by decide +kernel
theorem dL_law_773 : decode cL_law 773 = .ok (.invokevirtual 82, 3) := by decide +kernel
theorem dL_law_776 : decode cL_law 776 = .ok (.iload 5, 2) := by decide +kernel
theorem dL_law_778 : decode cL_law 778 = .ok (.if_icmp .eq 5, 3) := by decide +kernel
theorem dL_law_781 : decode cL_law 781 = .ok (.iconst 0, 1) := by decide +kernel
theorem dL_law_782 : decode cL_law 782 = .ok (.ireturn, 1) := by decide +kernel
theorem dL_law_783 : decode cL_law 783 = .ok (.iload 5, 2) := by decide +kernel
theorem dL_law_785 : decode cL_law 785 = .ok (.ifCond .ne 15, 3) := by decide +kernel
theorem dL_law_788 : decode cL_law 788 = .ok (.aload_n 3, 1) := by decide +kernel
theorem dL_law_789 : decode cL_law 789 = .ok (.iconst 0, 1) := by decide +kernel
theorem dL_law_790 : decode cL_law 790 = .ok (.laload, 1) := by decide +kernel
theorem dL_law_791 : decode cL_law 791 = .ok (.iload 6, 2) := by decide +kernel
theorem dL_law_793 : decode cL_law 793 = .ok (.i2l, 1) := by decide +kernel
theorem dL_law_794 : decode cL_law 794 = .ok (.lcmp, 1) := by decide +kernel
theorem dL_law_795 : decode cL_law 795 = .ok (.ifCond .eq 5, 3) := by decide +kernel
theorem dL_law_798 : decode cL_law 798 = .ok (.iconst 0, 1) := by decide +kernel
theorem dL_law_799 : decode cL_law 799 = .ok (.ireturn, 1) := by decide +kernel
theorem dL_law_800 : decode cL_law 800 = .ok (.goto 518, 3) := by decide +kernel
theorem dL_law_803 : decode cL_law 803 = .ok (.aload_n 1, 1) := by decide +kernel
theorem dL_law_804 : decode cL_law 804 = .ok (.aload_n 0, 1) := by decide +kernel
theorem dL_law_805 : decode cL_law 805 = .ok (.iload 4, 2) := by decide +kernel
theorem dL_law_807 : decode cL_law 807 = .ok (.iconst 1, 1) := by decide +kernel
theorem dL_law_808 : decode cL_law 808 = .ok (.iadd, 1) := by decide +kernel
theorem dL_law_809 : decode cL_law 809 = .ok (.iaload, 1) := by decide +kernel
theorem dL_law_810 : decode cL_law 810 = .ok (.aload_n 0, 1) := by decide +kernel
theorem dL_law_811 : decode cL_law 811 = .ok (.iload 4, 2) := by decide +kernel
theorem dL_law_813 : decode cL_law 813 = .ok (.iconst 2, 1) := by decide +kernel
theorem dL_law_814 : decode cL_law 814 = .ok (.iadd, 1) := by decide +kernel
theorem dL_law_815 : decode cL_law 815 = .ok (.iaload, 1) := by decide +kernel
theorem dL_law_816 : decode cL_law 816 = .ok (.aload_n 3, 1) := by decide +kernel
theorem dL_law_817 : decode cL_law 817 = .ok (.invokestatic 122, 3) := by decide +kernel
theorem dL_law_820 : decode cL_law 820 = .ok (.istore 5, 2) := by decide +kernel
theorem dL_law_822 : decode cL_law 822 = .ok (.aload_n 2, 1) := by decide +kernel
theorem dL_law_823 : decode cL_law 823 = .ok (.aload_n 0, 1) := by decide +kernel
theorem dL_law_824 : decode cL_law 824 = .ok (.iload 4, 2) := by decide +kernel
theorem dL_law_826 : decode cL_law 826 = .ok (.iconst 1, 1) := by decide +kernel
theorem dL_law_827 : decode cL_law 827 = .ok (.iadd, 1) := by decide +kernel
theorem dL_law_828 : decode cL_law 828 = .ok (.iaload, 1) := by decide +kernel
theorem dL_law_829 : decode cL_law 829 = .ok (.aload_n 0, 1) := by decide +kernel
theorem dL_law_830 : decode cL_law 830 = .ok (.iload 4, 2) := by decide +kernel
theorem dL_law_832 : decode cL_law 832 = .ok (.iconst 2, 1) := by decide +kernel
theorem dL_law_833 : decode cL_law 833 = .ok (.iadd, 1) := by decide +kernel
theorem dL_law_834 : decode cL_law 834 = .ok (.iaload, 1) := by decide +kernel
theorem dL_law_835 : decode cL_law 835 = .ok (.invokevirtual 124, 3) := by decide +kernel
theorem dL_law_838 : decode cL_law 838 = .ok (.istore 6, 2) := by decide +kernel
theorem dL_law_840 : decode cL_law 840 = .ok (.aload_n 2, 1) := by decide +kernel
theorem dL_law_841 : decode cL_law 841 = .ok (.invokevirtual 82, 3) := by decide +kernel
theorem dL_law_844 : decode cL_law 844 = .ok (.iload 5, 2) := by decide +kernel
theorem dL_law_846 : decode cL_law 846 = .ok (.if_icmp .eq 5, 3) := by decide +kernel
theorem dL_law_849 : decode cL_law 849 = .ok (.iconst 0, 1) := by decide +kernel
theorem dL_law_850 : decode cL_law 850 = .ok (.ireturn, 1) := by decide +kernel
theorem dL_law_851 : decode cL_law 851 = .ok (.iload 5, 2) := by decide +kernel
theorem dL_law_853 : decode cL_law 853 = .ok (.ifCond .ne 15, 3) := by decide +kernel
theorem dL_law_856 : decode cL_law 856 = .ok (.aload_n 3, 1) := by decide +kernel
theorem dL_law_857 : decode cL_law 857 = .ok (.iconst 0, 1) := by decide +kernel
theorem dL_law_858 : decode cL_law 858 = .ok (.laload, 1) := by decide +kernel
theorem dL_law_859 : decode cL_law 859 = .ok (.iload 6, 2) := by decide +kernel
theorem dL_law_861 : decode cL_law 861 = .ok (.i2l, 1) := by decide +kernel
theorem dL_law_862 : decode cL_law 862 = .ok (.lcmp, 1) := by decide +kernel
theorem dL_law_863 : decode cL_law 863 = .ok (.ifCond .eq 5, 3) := by decide +kernel
theorem dL_law_866 : decode cL_law 866 = .ok (.iconst 0, 1) := by decide +kernel
theorem dL_law_867 : decode cL_law 867 = .ok (.ireturn, 1) := by decide +kernel
theorem dL_law_868 : decode cL_law 868 = .ok (.goto 450, 3) := by decide +kernel
theorem dL_law_871 : decode cL_law 871 = .ok (.aload_n 1, 1) := by decide +kernel
theorem dL_law_872 : decode cL_law 872 = .ok (.aload_n 0, 1) := by decide +kernel
theorem dL_law_873 : decode cL_law 873 = .ok (.iload 4, 2) := by decide +kernel
theorem dL_law_875 : decode cL_law 875 = .ok (.iconst 1, 1) := by decide +kernel
theorem dL_law_876 : decode cL_law 876 = .ok (.iadd, 1) := by decide +kernel
theorem dL_law_877 : decode cL_law 877 = .ok (.iaload, 1) := by decide +kernel
theorem dL_law_878 : decode cL_law 878 = .ok (.aload_n 3, 1) := by decide +kernel
theorem dL_law_879 : decode cL_law 879 = .ok (.invokestatic 125, 3) := by decide +kernel
theorem dL_law_882 : decode cL_law 882 = .ok (.istore 5, 2) := by decide +kernel
theorem dL_law_884 : decode cL_law 884 = .ok (.aload_n 2, 1) := by decide +kernel
theorem dL_law_885 : decode cL_law 885 = .ok (.aload_n 0, 1) := by decide +kernel
theorem dL_law_886 : decode cL_law 886 = .ok (.iload 4, 2) := by decide +kernel
theorem dL_law_888 : decode cL_law 888 = .ok (.iconst 1, 1) := by decide +kernel
theorem dL_law_889 : decode cL_law 889 = .ok (.iadd, 1) := by decide +kernel
theorem dL_law_890 : decode cL_law 890 = .ok (.iaload, 1) := by decide +kernel
theorem dL_law_891 : decode cL_law 891 = .ok (.invokevirtual 127, 3) := by decide +kernel
theorem dL_law_894 : decode cL_law 894 = .ok (.istore 6, 2) := by decide +kernel
theorem dL_law_896 : decode cL_law 896 = .ok (.aload_n 2, 1) := by decide +kernel
theorem dL_law_897 : decode cL_law 897 = .ok (.invokevirtual 82, 3) := by decide +kernel
theorem dL_law_900 : decode cL_law 900 = .ok (.iload 5, 2) := by decide +kernel
theorem dL_law_902 : decode cL_law 902 = .ok (.if_icmp .eq 5, 3) := by decide +kernel
theorem dL_law_905 : decode cL_law 905 = .ok (.iconst 0, 1) := by decide +kernel
theorem dL_law_906 : decode cL_law 906 = .ok (.ireturn, 1) := by decide +kernel
theorem dL_law_907 : decode cL_law 907 = .ok (.iload 5, 2) := by decide +kernel
theorem dL_law_909 : decode cL_law 909 = .ok (.ifCond .ne 15, 3) := by decide +kernel
theorem dL_law_912 : decode cL_law 912 = .ok (.aload_n 3, 1) := by decide +kernel
theorem dL_law_913 : decode cL_law 913 = .ok (.iconst 0, 1) := by decide +kernel
theorem dL_law_914 : decode cL_law 914 = .ok (.laload, 1) := by decide +kernel
theorem dL_law_915 : decode cL_law 915 = .ok (.iload 6, 2) := by decide +kernel
theorem dL_law_917 : decode cL_law 917 = .ok (.i2l, 1) := by decide +kernel
theorem dL_law_918 : decode cL_law 918 = .ok (.lcmp, 1) := by decide +kernel
theorem dL_law_919 : decode cL_law 919 = .ok (.ifCond .eq 5, 3) := by decide +kernel
theorem dL_law_922 : decode cL_law 922 = .ok (.iconst 0, 1) := by decide +kernel
theorem dL_law_923 : decode cL_law 923 = .ok (.ireturn, 1) := by decide +kernel
theorem dL_law_924 : decode cL_law 924 = .ok (.goto 394, 3) := by decide +kernel
theorem dL_law_927 : decode cL_law 927 = .ok (.aload_n 1, 1) := by decide +kernel
theorem dL_law_928 : decode cL_law 928 = .ok (.aload_n 0, 1) := by decide +kernel
theorem dL_law_929 : decode cL_law 929 = .ok (.iload 4, 2) := by decide +kernel
theorem dL_law_931 : decode cL_law 931 = .ok (.iconst 1, 1) := by decide +kernel
theorem dL_law_932 : decode cL_law 932 = .ok (.iadd, 1) := by decide +kernel
theorem dL_law_933 : decode cL_law 933 = .ok (.iaload, 1) := by decide +kernel
theorem dL_law_934 : decode cL_law 934 = .ok (.aload_n 0, 1) := by decide +kernel
theorem dL_law_935 : decode cL_law 935 = .ok (.iload 4, 2) := by decide +kernel
theorem dL_law_937 : decode cL_law 937 = .ok (.iconst 2, 1) := by decide +kernel
theorem dL_law_938 : decode cL_law 938 = .ok (.iadd, 1) := by decide +kernel
theorem dL_law_939 : decode cL_law 939 = .ok (.iaload, 1) := by decide +kernel
theorem dL_law_940 : decode cL_law 940 = .ok (.aload_n 3, 1) := by decide +kernel
theorem dL_law_941 : decode cL_law 941 = .ok (.invokestatic 128, 3) := by decide +kernel
theorem dL_law_944 : decode cL_law 944 = .ok (.istore 5, 2) := by decide +kernel
theorem dL_law_946 : decode cL_law 946 = .ok (.aload_n 2, 1) := by decide +kernel
theorem dL_law_947 : decode cL_law 947 = .ok (.aload_n 0, 1) := by decide +kernel
theorem dL_law_948 : decode cL_law 948 = .ok (.iload 4, 2) := by decide +kernel
theorem dL_law_950 : decode cL_law 950 = .ok (.iconst 1, 1) := by decide +kernel
theorem dL_law_951 : decode cL_law 951 = .ok (.iadd, 1) := by decide +kernel
theorem dL_law_952 : decode cL_law 952 = .ok (.iaload, 1) := by decide +kernel
theorem dL_law_953 : decode cL_law 953 = .ok (.aload_n 0, 1) := by decide +kernel
theorem dL_law_954 : decode cL_law 954 = .ok (.iload 4, 2) := by decide +kernel
theorem dL_law_956 : decode cL_law 956 = .ok (.iconst 2, 1) := by decide +kernel
theorem dL_law_957 : decode cL_law 957 = .ok (.iadd, 1) := by decide +kernel
theorem dL_law_958 : decode cL_law 958 = .ok (.iaload, 1) := by decide +kernel
theorem dL_law_959 : decode cL_law 959 = .ok (.invokevirtual 130, 3) := by decide +kernel
theorem dL_law_962 : decode cL_law 962 = .ok (.istore 6, 2) := by decide +kernel
theorem dL_law_964 : decode cL_law 964 = .ok (.aload_n 2, 1) := by decide +kernel
theorem dL_law_965 : decode cL_law 965 = .ok (.invokevirtual 82, 3) := by decide +kernel
theorem dL_law_968 : decode cL_law 968 = .ok (.iload 5, 2) := by decide +kernel
theorem dL_law_970 : decode cL_law 970 = .ok (.if_icmp .eq 5, 3) := by decide +kernel
theorem dL_law_973 : decode cL_law 973 = .ok (.iconst 0, 1) := by decide +kernel
theorem dL_law_974 : decode cL_law 974 = .ok (.ireturn, 1) := by decide +kernel
theorem dL_law_975 : decode cL_law 975 = .ok (.iload 5, 2) := by decide +kernel
theorem dL_law_977 : decode cL_law 977 = .ok (.ifCond .ne 15, 3) := by decide +kernel
theorem dL_law_980 : decode cL_law 980 = .ok (.aload_n 3, 1) := by decide +kernel
theorem dL_law_981 : decode cL_law 981 = .ok (.iconst 0, 1) := by decide +kernel
theorem dL_law_982 : decode cL_law 982 = .ok (.laload, 1) := by decide +kernel
theorem dL_law_983 : decode cL_law 983 = .ok (.iload 6, 2) := by decide +kernel
theorem dL_law_985 : decode cL_law 985 = .ok (.i2l, 1) := by decide +kernel
theorem dL_law_986 : decode cL_law 986 = .ok (.lcmp, 1) := by decide +kernel
theorem dL_law_987 : decode cL_law 987 = .ok (.ifCond .eq 5, 3) := by decide +kernel
theorem dL_law_990 : decode cL_law 990 = .ok (.iconst 0, 1) := by decide +kernel
theorem dL_law_991 : decode cL_law 991 = .ok (.ireturn, 1) := by decide +kernel
theorem dL_law_992 : decode cL_law 992 = .ok (.goto 326, 3) := by decide +kernel
theorem dL_law_995 : decode cL_law 995 = .ok (.aload_n 1, 1) := by decide +kernel
theorem dL_law_996 : decode cL_law 996 = .ok (.aload_n 0, 1) := by decide +kernel
theorem dL_law_997 : decode cL_law 997 = .ok (.iload 4, 2) := by decide +kernel
theorem dL_law_999 : decode cL_law 999 = .ok (.iconst 1, 1) := by decide +kernel
theorem dL_law_1000 : decode cL_law 1000 = .ok (.iadd, 1) := by decide +kernel
theorem dL_law_1001 : decode cL_law 1001 = .ok (.iaload, 1) := by decide +kernel
theorem dL_law_1002 : decode cL_law 1002 = .ok (.aload_n 3, 1) := by decide +kernel
theorem dL_law_1003 : decode cL_law 1003 = .ok (.invokestatic 131, 3) := by decide +kernel
theorem dL_law_1006 : decode cL_law 1006 = .ok (.istore 5, 2) := by decide +kernel
theorem dL_law_1008 : decode cL_law 1008 = .ok (.aload_n 2, 1) := by decide +kernel
theorem dL_law_1009 : decode cL_law 1009 = .ok (.aload_n 0, 1) := by decide +kernel
theorem dL_law_1010 : decode cL_law 1010 = .ok (.iload 4, 2) := by decide +kernel
theorem dL_law_1012 : decode cL_law 1012 = .ok (.iconst 1, 1) := by decide +kernel
theorem dL_law_1013 : decode cL_law 1013 = .ok (.iadd, 1) := by decide +kernel
theorem dL_law_1014 : decode cL_law 1014 = .ok (.iaload, 1) := by decide +kernel
theorem dL_law_1015 : decode cL_law 1015 = .ok (.invokevirtual 133, 3) := by decide +kernel
theorem dL_law_1018 : decode cL_law 1018 = .ok (.istore 6, 2) := by decide +kernel
theorem dL_law_1020 : decode cL_law 1020 = .ok (.aload_n 2, 1) := by decide +kernel
theorem dL_law_1021 : decode cL_law 1021 = .ok (.invokevirtual 82, 3) := by decide +kernel
theorem dL_law_1024 : decode cL_law 1024 = .ok (.iload 5, 2) := by decide +kernel
theorem dL_law_1026 : decode cL_law 1026 = .ok (.if_icmp .eq 5, 3) := by decide +kernel
theorem dL_law_1029 : decode cL_law 1029 = .ok (.iconst 0, 1) := by decide +kernel
theorem dL_law_1030 : decode cL_law 1030 = .ok (.ireturn, 1) := by decide +kernel
theorem dL_law_1031 : decode cL_law 1031 = .ok (.iload 5, 2) := by decide +kernel
theorem dL_law_1033 : decode cL_law 1033 = .ok (.ifCond .ne 15, 3) := by decide +kernel
theorem dL_law_1036 : decode cL_law 1036 = .ok (.aload_n 3, 1) := by decide +kernel
theorem dL_law_1037 : decode cL_law 1037 = .ok (.iconst 0, 1) := by decide +kernel
theorem dL_law_1038 : decode cL_law 1038 = .ok (.laload, 1) := by decide +kernel
theorem dL_law_1039 : decode cL_law 1039 = .ok (.iload 6, 2) := by decide +kernel
theorem dL_law_1041 : decode cL_law 1041 = .ok (.i2l, 1) := by decide +kernel
theorem dL_law_1042 : decode cL_law 1042 = .ok (.lcmp, 1) := by decide +kernel
theorem dL_law_1043 : decode cL_law 1043 = .ok (.ifCond .eq 5, 3) := by decide +kernel
theorem dL_law_1046 : decode cL_law 1046 = .ok (.iconst 0, 1) := by decide +kernel
theorem dL_law_1047 : decode cL_law 1047 = .ok (.ireturn, 1) := by decide +kernel
theorem dL_law_1048 : decode cL_law 1048 = .ok (.goto 270, 3) := by decide +kernel
theorem dL_law_1051 : decode cL_law 1051 = .ok (.aload_n 1, 1) := by decide +kernel
theorem dL_law_1052 : decode cL_law 1052 = .ok (.aload_n 0, 1) := by decide +kernel
theorem dL_law_1053 : decode cL_law 1053 = .ok (.iload 4, 2) := by decide +kernel
theorem dL_law_1055 : decode cL_law 1055 = .ok (.iconst 1, 1) := by decide +kernel
theorem dL_law_1056 : decode cL_law 1056 = .ok (.iadd, 1) := by decide +kernel
theorem dL_law_1057 : decode cL_law 1057 = .ok (.iaload, 1) := by decide +kernel
theorem dL_law_1058 : decode cL_law 1058 = .ok (.aload_n 0, 1) := by decide +kernel
theorem dL_law_1059 : decode cL_law 1059 = .ok (.iload 4, 2) := by decide +kernel
theorem dL_law_1061 : decode cL_law 1061 = .ok (.iconst 2, 1) := by decide +kernel
theorem dL_law_1062 : decode cL_law 1062 = .ok (.iadd, 1) := by decide +kernel
theorem dL_law_1063 : decode cL_law 1063 = .ok (.iaload, 1) := by decide +kernel
theorem dL_law_1064 : decode cL_law 1064 = .ok (.aload_n 3, 1) := by decide +kernel
theorem dL_law_1065 : decode cL_law 1065 = .ok (.invokestatic 134, 3) := by decide +kernel
theorem dL_law_1068 : decode cL_law 1068 = .ok (.istore 5, 2) := by decide +kernel
theorem dL_law_1070 : decode cL_law 1070 = .ok (.aload_n 2, 1) := by decide +kernel
theorem dL_law_1071 : decode cL_law 1071 = .ok (.aload_n 0, 1) := by decide +kernel
theorem dL_law_1072 : decode cL_law 1072 = .ok (.iload 4, 2) := by decide +kernel
theorem dL_law_1074 : decode cL_law 1074 = .ok (.iconst 1, 1) := by decide +kernel
theorem dL_law_1075 : decode cL_law 1075 = .ok (.iadd, 1) := by decide +kernel
theorem dL_law_1076 : decode cL_law 1076 = .ok (.iaload, 1) := by decide +kernel
theorem dL_law_1077 : decode cL_law 1077 = .ok (.aload_n 0, 1) := by decide +kernel
theorem dL_law_1078 : decode cL_law 1078 = .ok (.iload 4, 2) := by decide +kernel
theorem dL_law_1080 : decode cL_law 1080 = .ok (.iconst 2, 1) := by decide +kernel
theorem dL_law_1081 : decode cL_law 1081 = .ok (.iadd, 1) := by decide +kernel
theorem dL_law_1082 : decode cL_law 1082 = .ok (.iaload, 1) := by decide +kernel
theorem dL_law_1083 : decode cL_law 1083 = .ok (.invokevirtual 136, 3) := by decide +kernel
theorem dL_law_1086 : decode cL_law 1086 = .ok (.istore 6, 2) := by decide +kernel
theorem dL_law_1088 : decode cL_law 1088 = .ok (.aload_n 2, 1) := by decide +kernel
theorem dL_law_1089 : decode cL_law 1089 = .ok (.invokevirtual 82, 3) := by decide +kernel
theorem dL_law_1092 : decode cL_law 1092 = .ok (.iload 5, 2) := by decide +kernel
theorem dL_law_1094 : decode cL_law 1094 = .ok (.if_icmp .eq 5, 3) := by decide +kernel
theorem dL_law_1097 : decode cL_law 1097 = .ok (.iconst 0, 1) := by decide +kernel
theorem dL_law_1098 : decode cL_law 1098 = .ok (.ireturn, 1) := by decide +kernel
theorem dL_law_1099 : decode cL_law 1099 = .ok (.iload 5, 2) := by decide +kernel
theorem dL_law_1101 : decode cL_law 1101 = .ok (.ifCond .ne 15, 3) := by decide +kernel
theorem dL_law_1104 : decode cL_law 1104 = .ok (.aload_n 3, 1) := by decide +kernel
theorem dL_law_1105 : decode cL_law 1105 = .ok (.iconst 0, 1) := by decide +kernel
theorem dL_law_1106 : decode cL_law 1106 = .ok (.laload, 1) := by decide +kernel
theorem dL_law_1107 : decode cL_law 1107 = .ok (.iload 6, 2) := by decide +kernel
theorem dL_law_1109 : decode cL_law 1109 = .ok (.i2l, 1) := by decide +kernel
theorem dL_law_1110 : decode cL_law 1110 = .ok (.lcmp, 1) := by decide +kernel
theorem dL_law_1111 : decode cL_law 1111 = .ok (.ifCond .eq 5, 3) := by decide +kernel
theorem dL_law_1114 : decode cL_law 1114 = .ok (.iconst 0, 1) := by decide +kernel
theorem dL_law_1115 : decode cL_law 1115 = .ok (.ireturn, 1) := by decide +kernel
theorem dL_law_1116 : decode cL_law 1116 = .ok (.goto 202, 3) := by decide +kernel
theorem dL_law_1119 : decode cL_law 1119 = .ok (.aload_n 1, 1) := by decide +kernel
theorem dL_law_1120 : decode cL_law 1120 = .ok (.aload_n 0, 1) := by decide +kernel
theorem dL_law_1121 : decode cL_law 1121 = .ok (.iload 4, 2) := by decide +kernel
theorem dL_law_1123 : decode cL_law 1123 = .ok (.iconst 1, 1) := by decide +kernel
theorem dL_law_1124 : decode cL_law 1124 = .ok (.iadd, 1) := by decide +kernel
theorem dL_law_1125 : decode cL_law 1125 = .ok (.iaload, 1) := by decide +kernel
theorem dL_law_1126 : decode cL_law 1126 = .ok (.aload_n 3, 1) := by decide +kernel
theorem dL_law_1127 : decode cL_law 1127 = .ok (.invokestatic 137, 3) := by decide +kernel
theorem dL_law_1130 : decode cL_law 1130 = .ok (.istore 5, 2) := by decide +kernel
theorem dL_law_1132 : decode cL_law 1132 = .ok (.aload_n 2, 1) := by decide +kernel
theorem dL_law_1133 : decode cL_law 1133 = .ok (.aload_n 0, 1) := by decide +kernel
theorem dL_law_1134 : decode cL_law 1134 = .ok (.iload 4, 2) := by decide +kernel
theorem dL_law_1136 : decode cL_law 1136 = .ok (.iconst 1, 1) := by decide +kernel
theorem dL_law_1137 : decode cL_law 1137 = .ok (.iadd, 1) := by decide +kernel
theorem dL_law_1138 : decode cL_law 1138 = .ok (.iaload, 1) := by decide +kernel
theorem dL_law_1139 : decode cL_law 1139 = .ok (.invokevirtual 139, 3) := by decide +kernel
theorem dL_law_1142 : decode cL_law 1142 = .ok (.istore 6, 2) := by decide +kernel
theorem dL_law_1144 : decode cL_law 1144 = .ok (.aload_n 2, 1) := by decide +kernel
theorem dL_law_1145 : decode cL_law 1145 = .ok (.invokevirtual 82, 3) := by decide +kernel
theorem dL_law_1148 : decode cL_law 1148 = .ok (.iload 5, 2) := by decide +kernel
theorem dL_law_1150 : decode cL_law 1150 = .ok (.if_icmp .eq 5, 3) := by decide +kernel
theorem dL_law_1153 : decode cL_law 1153 = .ok (.iconst 0, 1) := by decide +kernel
theorem dL_law_1154 : decode cL_law 1154 = .ok (.ireturn, 1) := by decide +kernel
theorem dL_law_1155 : decode cL_law 1155 = .ok (.iload 5, 2) := by decide +kernel
theorem dL_law_1157 : decode cL_law 1157 = .ok (.ifCond .ne 15, 3) := by decide +kernel
theorem dL_law_1160 : decode cL_law 1160 = .ok (.aload_n 3, 1) := by decide +kernel
theorem dL_law_1161 : decode cL_law 1161 = .ok (.iconst 0, 1) := by decide +kernel
theorem dL_law_1162 : decode cL_law 1162 = .ok (.laload, 1) := by decide +kernel
theorem dL_law_1163 : decode cL_law 1163 = .ok (.iload 6, 2) := by decide +kernel
theorem dL_law_1165 : decode cL_law 1165 = .ok (.i2l, 1) := by decide +kernel
theorem dL_law_1166 : decode cL_law 1166 = .ok (.lcmp, 1) := by decide +kernel
theorem dL_law_1167 : decode cL_law 1167 = .ok (.ifCond .eq 5, 3) := by decide +kernel
theorem dL_law_1170 : decode cL_law 1170 = .ok (.iconst 0, 1) := by decide +kernel
theorem dL_law_1171 : decode cL_law 1171 = .ok (.ireturn, 1) := by decide +kernel
theorem dL_law_1172 : decode cL_law 1172 = .ok (.goto 146, 3) := by decide +kernel
theorem dL_law_1175 : decode cL_law 1175 = .ok (.aload_n 1, 1) := by decide +kernel
theorem dL_law_1176 : decode cL_law 1176 = .ok (.aload_n 0, 1) := by decide +kernel
theorem dL_law_1177 : decode cL_law 1177 = .ok (.iload 4, 2) := by decide +kernel
theorem dL_law_1179 : decode cL_law 1179 = .ok (.iconst 1, 1) := by decide +kernel
theorem dL_law_1180 : decode cL_law 1180 = .ok (.iadd, 1) := by decide +kernel
theorem dL_law_1181 : decode cL_law 1181 = .ok (.iaload, 1) := by decide +kernel
theorem dL_law_1182 : decode cL_law 1182 = .ok (.aload_n 0, 1) := by decide +kernel
theorem dL_law_1183 : decode cL_law 1183 = .ok (.iload 4, 2) := by decide +kernel
theorem dL_law_1185 : decode cL_law 1185 = .ok (.iconst 2, 1) := by decide +kernel
theorem dL_law_1186 : decode cL_law 1186 = .ok (.iadd, 1) := by decide +kernel
theorem dL_law_1187 : decode cL_law 1187 = .ok (.iaload, 1) := by decide +kernel
theorem dL_law_1188 : decode cL_law 1188 = .ok (.aload_n 3, 1) := by decide +kernel
theorem dL_law_1189 : decode cL_law 1189 = .ok (.invokestatic 140, 3) := by decide +kernel
theorem dL_law_1192 : decode cL_law 1192 = .ok (.istore 5, 2) := by decide +kernel
theorem dL_law_1194 : decode cL_law 1194 = .ok (.aload_n 2, 1) := by decide +kernel
theorem dL_law_1195 : decode cL_law 1195 = .ok (.aload_n 0, 1) := by decide +kernel
theorem dL_law_1196 : decode cL_law 1196 = .ok (.iload 4, 2) := by decide +kernel
theorem dL_law_1198 : decode cL_law 1198 = .ok (.iconst 1, 1) := by decide +kernel
theorem dL_law_1199 : decode cL_law 1199 = .ok (.iadd, 1) := by decide +kernel
theorem dL_law_1200 : decode cL_law 1200 = .ok (.iaload, 1) := by decide +kernel
theorem dL_law_1201 : decode cL_law 1201 = .ok (.aload_n 0, 1) := by decide +kernel
theorem dL_law_1202 : decode cL_law 1202 = .ok (.iload 4, 2) := by decide +kernel
theorem dL_law_1204 : decode cL_law 1204 = .ok (.iconst 2, 1) := by decide +kernel
theorem dL_law_1205 : decode cL_law 1205 = .ok (.iadd, 1) := by decide +kernel
theorem dL_law_1206 : decode cL_law 1206 = .ok (.iaload, 1) := by decide +kernel
theorem dL_law_1207 : decode cL_law 1207 = .ok (.invokevirtual 142, 3) := by decide +kernel
theorem dL_law_1210 : decode cL_law 1210 = .ok (.istore 6, 2) := by decide +kernel
theorem dL_law_1212 : decode cL_law 1212 = .ok (.aload_n 2, 1) := by decide +kernel
theorem dL_law_1213 : decode cL_law 1213 = .ok (.invokevirtual 82, 3) := by decide +kernel
theorem dL_law_1216 : decode cL_law 1216 = .ok (.iload 5, 2) := by decide +kernel
theorem dL_law_1218 : decode cL_law 1218 = .ok (.if_icmp .eq 5, 3) := by decide +kernel
theorem dL_law_1221 : decode cL_law 1221 = .ok (.iconst 0, 1) := by decide +kernel
theorem dL_law_1222 : decode cL_law 1222 = .ok (.ireturn, 1) := by decide +kernel
theorem dL_law_1223 : decode cL_law 1223 = .ok (.iload 5, 2) := by decide +kernel
theorem dL_law_1225 : decode cL_law 1225 = .ok (.ifCond .ne 15, 3) := by decide +kernel
theorem dL_law_1228 : decode cL_law 1228 = .ok (.aload_n 3, 1) := by decide +kernel
theorem dL_law_1229 : decode cL_law 1229 = .ok (.iconst 0, 1) := by decide +kernel
theorem dL_law_1230 : decode cL_law 1230 = .ok (.laload, 1) := by decide +kernel
theorem dL_law_1231 : decode cL_law 1231 = .ok (.iload 6, 2) := by decide +kernel
theorem dL_law_1233 : decode cL_law 1233 = .ok (.i2l, 1) := by decide +kernel
theorem dL_law_1234 : decode cL_law 1234 = .ok (.lcmp, 1) := by decide +kernel
theorem dL_law_1235 : decode cL_law 1235 = .ok (.ifCond .eq 5, 3) := by decide +kernel
theorem dL_law_1238 : decode cL_law 1238 = .ok (.iconst 0, 1) := by decide +kernel
theorem dL_law_1239 : decode cL_law 1239 = .ok (.ireturn, 1) := by decide +kernel
theorem dL_law_1240 : decode cL_law 1240 = .ok (.goto 78, 3) := by decide +kernel
theorem dL_law_1243 : decode cL_law 1243 = .ok (.aload_n 1, 1) := by decide +kernel
theorem dL_law_1244 : decode cL_law 1244 = .ok (.aload_n 0, 1) := by decide +kernel
theorem dL_law_1245 : decode cL_law 1245 = .ok (.iload 4, 2) := by decide +kernel
theorem dL_law_1247 : decode cL_law 1247 = .ok (.iconst 1, 1) := by decide +kernel
theorem dL_law_1248 : decode cL_law 1248 = .ok (.iadd, 1) := by decide +kernel
theorem dL_law_1249 : decode cL_law 1249 = .ok (.iaload, 1) := by decide +kernel
theorem dL_law_1250 : decode cL_law 1250 = .ok (.aload_n 0, 1) := by decide +kernel
theorem dL_law_1251 : decode cL_law 1251 = .ok (.iload 4, 2) := by decide +kernel
theorem dL_law_1253 : decode cL_law 1253 = .ok (.iconst 2, 1) := by decide +kernel
theorem dL_law_1254 : decode cL_law 1254 = .ok (.iadd, 1) := by decide +kernel
theorem dL_law_1255 : decode cL_law 1255 = .ok (.iaload, 1) := by decide +kernel
theorem dL_law_1256 : decode cL_law 1256 = .ok (.aload_n 3, 1) := by decide +kernel
theorem dL_law_1257 : decode cL_law 1257 = .ok (.invokestatic 143, 3) := by decide +kernel
theorem dL_law_1260 : decode cL_law 1260 = .ok (.istore 5, 2) := by decide +kernel
theorem dL_law_1262 : decode cL_law 1262 = .ok (.aload_n 2, 1) := by decide +kernel
theorem dL_law_1263 : decode cL_law 1263 = .ok (.aload_n 0, 1) := by decide +kernel
theorem dL_law_1264 : decode cL_law 1264 = .ok (.iload 4, 2) := by decide +kernel
theorem dL_law_1266 : decode cL_law 1266 = .ok (.iconst 1, 1) := by decide +kernel
theorem dL_law_1267 : decode cL_law 1267 = .ok (.iadd, 1) := by decide +kernel
theorem dL_law_1268 : decode cL_law 1268 = .ok (.iaload, 1) := by decide +kernel
theorem dL_law_1269 : decode cL_law 1269 = .ok (.aload_n 0, 1) := by decide +kernel
theorem dL_law_1270 : decode cL_law 1270 = .ok (.iload 4, 2) := by decide +kernel
theorem dL_law_1272 : decode cL_law 1272 = .ok (.iconst 2, 1) := by decide +kernel
theorem dL_law_1273 : decode cL_law 1273 = .ok (.iadd, 1) := by decide +kernel
theorem dL_law_1274 : decode cL_law 1274 = .ok (.iaload, 1) := by decide +kernel
theorem dL_law_1275 : decode cL_law 1275 = .ok (.invokevirtual 145, 3) := by decide +kernel
theorem dL_law_1278 : decode cL_law 1278 = .ok (.istore 6, 2) := by decide +kernel
theorem dL_law_1280 : decode cL_law 1280 = .ok (.aload_n 2, 1) := by decide +kernel
theorem dL_law_1281 : decode cL_law 1281 = .ok (.invokevirtual 82, 3) := by decide +kernel
theorem dL_law_1284 : decode cL_law 1284 = .ok (.iload 5, 2) := by decide +kernel
theorem dL_law_1286 : decode cL_law 1286 = .ok (.if_icmp .eq 5, 3) := by decide +kernel
theorem dL_law_1289 : decode cL_law 1289 = .ok (.iconst 0, 1) := by decide +kernel
theorem dL_law_1290 : decode cL_law 1290 = .ok (.ireturn, 1) := by decide +kernel
theorem dL_law_1291 : decode cL_law 1291 = .ok (.iload 5, 2) := by decide +kernel
theorem dL_law_1293 : decode cL_law 1293 = .ok (.ifCond .ne 22, 3) := by decide +kernel
theorem dL_law_1296 : decode cL_law 1296 = .ok (.aload_n 3, 1) := by decide +kernel
theorem dL_law_1297 : decode cL_law 1297 = .ok (.iconst 0, 1) := by decide +kernel
theorem dL_law_1298 : decode cL_law 1298 = .ok (.laload, 1) := by decide +kernel
theorem dL_law_1299 : decode cL_law 1299 = .ok (.iload 6, 2) := by decide +kernel
theorem dL_law_1301 : decode cL_law 1301 = .ok (.ifCond .eq 7, 3) := by decide +kernel
theorem dL_law_1304 : decode cL_law 1304 = .ok (.lconst 1, 1) := by decide +kernel
theorem dL_law_1305 : decode cL_law 1305 = .ok (.goto 4, 3) := by decide +kernel
theorem dL_law_1308 : decode cL_law 1308 = .ok (.lconst 0, 1) := by decide +kernel
theorem dL_law_1309 : decode cL_law 1309 = .ok (.lcmp, 1) := by decide +kernel
theorem dL_law_1310 : decode cL_law 1310 = .ok (.ifCond .eq 5, 3) := by decide +kernel
theorem dL_law_1313 : decode cL_law 1313 = .ok (.iconst 0, 1) := by decide +kernel
theorem dL_law_1314 : decode cL_law 1314 = .ok (.ireturn, 1) := by decide +kernel
theorem dL_law_1315 : decode cL_law 1315 = .ok (.goto 3, 3) := by decide +kernel
theorem dL_law_1318 : decode cL_law 1318 = .ok (.iinc 4 4, 3) := by decide +kernel
theorem dL_law_1321 : decode cL_law 1321 = .ok (.goto (-1298), 3) := by decide +kernel
theorem dL_law_1324 : decode cL_law 1324 = .ok (.iconst 1, 1) := by decide +kernel
theorem dL_law_1325 : decode cL_law 1325 = .ok (.ireturn, 1) := by decide +kernel
end
section
/-! the memory: what exists, which references are set, ints, longs: by kind, number, place -/
abbrev Mem : Type := (Nat → Nat → Bool) × (Nat → Nat → Nat → Bool) × (Nat → Nat → Nat → Int32) × (Nat → Nat → Nat → Int64)
abbrev AD : Type := Nat → Nat → Nat
def mE (M : Mem) (κ i : Nat) : Bool := M.1 κ i
def mF (M : Mem) (κ i k : Nat) : Bool := M.2.1 κ i k
def mI (M : Mem) (κ i k : Nat) : Int32 := M.2.2.1 κ i k
def mL (M : Mem) (κ i k : Nat) : Int64 := M.2.2.2 κ i k
def wI (M : Mem) (κ i k : Nat) (v : Int32) : Mem := (M.1, M.2.1, fun a b c => if a = κ ∧ b = i ∧ c = k then v else M.2.2.1 a b c, M.2.2.2)
def wL (M : Mem) (κ i k : Nat) (v : Int64) : Mem := (M.1, M.2.1, M.2.2.1, fun a b c => if a = κ ∧ b = i ∧ c = k then v else M.2.2.2 a b c)
def wF (M : Mem) (κ i k : Nat) (v : Bool) : Mem := (M.1, fun a b c => if a = κ ∧ b = i ∧ c = k then v else M.2.1 a b c, M.2.2.1, M.2.2.2)
def wN (M : Mem) (κ i : Nat) : Mem := (fun a b => if a = κ ∧ b = i then true else M.1 a b, fun a b c => if a = κ ∧ b = i then false else M.2.1 a b c, fun a b c => if a = κ ∧ b = i then 0 else M.2.2.1 a b c, fun a b c => if a = κ ∧ b = i then 0 else M.2.2.2 a b c)
def wD (M : Mem) (κ i : Nat) : Mem := (fun a b => if a = κ ∧ b = i then false else M.1 a b, M.2.1, M.2.2.1, M.2.2.2)
/-! the kinds: 0 Asks, 1 Log, 2 Peer, 3 Store, 4 Swarmhall, 5 SwarmhallModel; 10 to 12 the hall's arrays, 20 to 26 a peer's, 30 + k the model's, 60 the law's -/
def kN (κ : Nat) : Nat := match κ with
  | 0 => 4 | 1 => 3 | 2 => 14 | 3 => 3 | 4 => 5 | 5 => 23 | _ => 0
/-- a place's type: 0 int, 1 long, n + 2 a reference to one of kind n -/
def kT (κ k : Nat) : Nat := match κ with
  | 0 => (match k with | 0 => 22 | 1 => 23 | 3 => 1 | _ => 0)
  | 1 => (match k with | 1 => 24 | _ => 0)
  | 2 => (match k with | 1 => 5 | 2 => 3 | 3 => 2 | 7 => 25 | 8 => 26 | 9 => 27 | 12 => 28 | _ => 0)
  | 3 => (match k with | 0 => 0 | _ => 1)
  | 4 => (match k with | 0 => 12 | 1 => 13 | 2 => 14 | _ => 0)
  | 5 => (match k with | 0 => 0 | 1 => 0 | 3 => 0 | 19 => 0 | j => 32 + j)
  | 10 => 4
  | 23 => 1
  | 60 => 1
  | _ => 0
def kR (κ i k : Nat) : Nat × Nat := if κ = 10 then (2, k) else (kT κ k - 2, i)
/-- of what an array is: 0 int, 1 long, 2 boolean, 3 peers -/
def kA (κ : Nat) : Nat := match κ with
  | 10 => 3 | 23 => 1 | 60 => 1 | 34 => 2 | 36 => 2 | 37 => 2 | 46 => 2 | _ => 0
def kLen (κ : Nat) : Nat := match κ with
  | 10 => 6 | 11 => 12 | 12 => 12 | 20 => 6 | 21 => 6 | 22 => 1000 | 23 => 6 | 24 => 6 | 25 => 6 | 26 => 6
  | 32 => 12 | 34 => 6 | 35 => 6 | 36 => 6 | 37 => 6 | 38 => 6 | 39 => 6 | 40 => 72 | 41 => 72 | 42 => 72 | 43 => 288 | 44 => 36 | 45 => 36 | 46 => 36 | 47 => 36 | 48 => 6 | 50 => 36 | 51 => 36 | 52 => 36
  | 60 => 1 | _ => 0
def kTy (a : Nat) : FieldType := match a with
  | 0 => .int | 1 => .long | 2 => .boolean | _ => .object RX2
def mV (M : Mem) (ad : AD) (κ i k : Nat) : Value := match kT κ k with
  | 0 => .int (mI M κ i k)
  | 1 => .long (mL M κ i k)
  | _ => if mF M κ i k = true then .ref (ad (kR κ i k).1 (kR κ i k).2) else .null
abbrev GE : Type := (Nat → ClassId) × (Nat → Nat → Nat) × (Nat → ClassId)
def oAt (E : GE) (M : Mem) (ad : AD) (H : Heap) (κ i : Nat) : Prop :=
  if κ < 6 then t_OB (ad κ i) (E.1 κ) (kN κ) (E.2.1 κ) H (mV M ad κ i) else H[ad κ i]? = some (arrV (E.2.2 (kA κ)) (kLen κ) (mV M ad κ i))
/-- the heap holds the memory, at the addresses ad, all of them from base on -/
def Wd (E : GE) (base : Nat) (M : Mem) (ad : AD) (H : Heap) : Prop :=
  (∀ κ i, mE M κ i = true → base ≤ ad κ i ∧ oAt E M ad H κ i) ∧
  (∀ κ i κ' i', mE M κ i = true → mE M κ' i' = true → ad κ i = ad κ' i' → κ = κ' ∧ i = i') ∧
  (∀ κ i k, mE M κ i = true → mF M κ i k = true → mE M (kR κ i k).1 (kR κ i k).2 = true)
theorem oAt.lt {E : GE} {M : Mem} {ad : AD} {H : Heap} {κ i : Nat} (h : oAt E M ad H κ i) : ad κ i < H.size := by
  unfold oAt at h
  split at h
  · obtain ⟨cell, h1, -⟩ := h
    exact (Array.getElem?_eq_some_iff.mp h1).1
  · exact (Array.getElem?_eq_some_iff.mp h).1
theorem oAt.kept {E : GE} {M M1 : Mem} {ad ad1 : AD} {H H1 : Heap} {κ i : Nat} (h : oAt E M ad H κ i) (ha : ad1 κ i = ad κ i) (hh : H1[ad κ i]? = H[ad κ i]?) (hv : ∀ k, mV M1 ad1 κ i k = mV M ad κ i k) : oAt E M1 ad1 H1 κ i := by
  unfold oAt at h ⊢
  have hf : mV M1 ad1 κ i = mV M ad κ i := funext hv
  rw [ha, hf]
  split
  · rename_i h6
    rw [if_pos h6] at h
    exact h.kept hh
  · rename_i h6
    rw [if_neg h6] at h
    rw [hh]; exact h
theorem mV_same {M M1 : Mem} {ad : AD} {κ i k : Nat} (h1 : mI M1 κ i k = mI M κ i k) (h2 : mL M1 κ i k = mL M κ i k) (h3 : mF M1 κ i k = mF M κ i k) : mV M1 ad κ i k = mV M ad κ i k := by
  unfold mV
  rw [h1, h2, h3]
/-- one place of one cell is written anew -/
theorem Wd.put {E : GE} {base : Nat} {M M1 : Mem} {ad : AD} {H H1 : Heap} {κ i : Nat} (h : Wd E base M ad H) (he : mE M κ i = true) (hE : ∀ a b, mE M1 a b = mE M a b)
    (hv : ∀ a b, ¬ (a = κ ∧ b = i) → ∀ k, mI M1 a b k = mI M a b k ∧ mL M1 a b k = mL M a b k ∧ mF M1 a b k = mF M a b k)
    (hF : ∀ k, mF M1 κ i k = true → mE M (kR κ i k).1 (kR κ i k).2 = true) (ho : oAt E M1 ad H1 κ i) (oq : ∀ q : Nat, q ≠ ad κ i → H1[q]? = H[q]?) : Wd E base M1 ad H1 := by
  obtain ⟨h1, h2, h3⟩ := h
  refine ⟨fun a b hab => ?_, fun a b a' b' x y => ?_, fun a b k x y => ?_⟩
  · rw [hE] at hab
    refine ⟨(h1 a b hab).1, ?_⟩
    by_cases hc : a = κ ∧ b = i
    · rw [hc.1, hc.2]; exact ho
    · refine (h1 a b hab).2.kept rfl (oq _ fun e => hc (h2 a b κ i hab he e)) fun k => ?_
      obtain ⟨q1, q2, q3⟩ := hv a b hc k
      exact mV_same q1 q2 q3
  · rw [hE] at x y; exact h2 a b a' b' x y
  · rw [hE] at x ⊢
    by_cases hc : a = κ ∧ b = i
    · obtain ⟨rfl, rfl⟩ := hc; exact hF k y
    · rw [(hv a b hc k).2.2] at y; exact h3 a b k x y
/-- a cell comes, at a new address -/
theorem Wd.new {E : GE} {base : Nat} {M : Mem} {ad : AD} {H H1 : Heap} {κ i q : Nat} (h : Wd E base M ad H) (he : mE M κ i = false) (hq : q = H.size) (hb : base ≤ q) (o1 : ∀ z : Nat, z < q → H1[z]? = H[z]?)
    (ho : oAt E (wN M κ i) (fun a b => if a = κ ∧ b = i then q else ad a b) H1 κ i) : Wd E base (wN M κ i) (fun a b => if a = κ ∧ b = i then q else ad a b) H1 := by
  obtain ⟨h1, h2, h3⟩ := h
  have ev : ∀ a b, mE (wN M κ i) a b = true → ¬ (a = κ ∧ b = i) → mE M a b = true := fun a b x y => by
    simp only [mE, wN, if_neg y] at x; exact x
  refine ⟨fun a b hab => ?_, fun a b a' b' x y z => ?_, fun a b k x y => ?_⟩
  · by_cases hc : a = κ ∧ b = i
    · obtain ⟨rfl, rfl⟩ := hc
      exact ⟨by simp; exact hb, ho⟩
    · have hm := ev a b hab hc
      obtain ⟨p1, p2⟩ := h1 a b hm
      refine ⟨by simp only [if_neg hc]; exact p1, p2.kept (by simp only [if_neg hc]) (o1 _ (by rw [hq]; exact p2.lt)) fun k => ?_⟩
      have e1 : mI (wN M κ i) a b k = mI M a b k := by simp only [mI, wN, if_neg hc]
      have e2 : mL (wN M κ i) a b k = mL M a b k := by simp only [mL, wN, if_neg hc]
      have e3 : mF (wN M κ i) a b k = mF M a b k := by simp only [mF, wN, if_neg hc]
      unfold mV
      rw [e1, e2, e3]
      split
      · rfl
      · rfl
      · by_cases hf : mF M a b k = true
        · have hx := h3 a b k hm hf
          have hn : ¬ ((kR a b k).1 = κ ∧ (kR a b k).2 = i) := fun e => by rw [e.1, e.2, he] at hx; cases hx
          rw [if_pos hf, if_pos hf]; simp only [if_neg hn]
        · rw [if_neg hf, if_neg hf]
  · by_cases hc : a = κ ∧ b = i
    · by_cases hd : a' = κ ∧ b' = i
      · exact ⟨hc.1.trans hd.1.symm, hc.2.trans hd.2.symm⟩
      · simp only [if_pos hc, if_neg hd] at z
        have := (h1 a' b' (ev a' b' y hd)).2.lt
        omega
    · by_cases hd : a' = κ ∧ b' = i
      · simp only [if_neg hc, if_pos hd] at z
        have := (h1 a b (ev a b x hc)).2.lt
        omega
      · simp only [if_neg hc, if_neg hd] at z
        exact h2 a b a' b' (ev a b x hc) (ev a' b' y hd) z
  · by_cases hc : a = κ ∧ b = i
    · simp only [mF, wN, if_pos hc] at y; cases y
    · simp only [mF, wN, if_neg hc] at y
      have hx := h3 a b k (ev a b x hc) y
      simp only [mE, wN] at hx ⊢
      split
      · rfl
      · exact hx
/-- a cell is forgotten to which no reference leads -/
theorem Wd.drop {E : GE} {base : Nat} {M : Mem} {ad : AD} {H : Heap} {κ i : Nat} (h : Wd E base M ad H) (hn : ∀ a b k, mE M a b = true → mF M a b k = true → ¬ (a = κ ∧ b = i) → ¬ ((kR a b k).1 = κ ∧ (kR a b k).2 = i)) : Wd E base (wD M κ i) ad H := by
  obtain ⟨h1, h2, h3⟩ := h
  have ev : ∀ a b, mE (wD M κ i) a b = true → ¬ (a = κ ∧ b = i) ∧ mE M a b = true := fun a b x => by
    by_cases hc : a = κ ∧ b = i
    · simp only [mE, wD, if_pos hc] at x; cases x
    · simp only [mE, wD, if_neg hc] at x; exact ⟨hc, x⟩
  refine ⟨fun a b hab => ?_, fun a b a' b' x y z => h2 a b a' b' (ev a b x).2 (ev a' b' y).2 z, fun a b k x y => ?_⟩
  · obtain ⟨hc, hm⟩ := ev a b hab
    exact ⟨(h1 a b hm).1, (h1 a b hm).2.kept rfl rfl fun k => mV_same rfl rfl rfl⟩
  · obtain ⟨hc, hm⟩ := ev a b x
    have hx := h3 a b k hm y
    have := hn a b k hm y hc
    simp only [mE, wD, if_neg this]
    exact hx
end
section
/-! reads and writes of the memory, as rows -/
theorem mV0 {M : Mem} {ad : AD} {κ i k : Nat} (h : kT κ k = 0) : mV M ad κ i k = .int (mI M κ i k) := by simp only [mV, h]
theorem mV1 {M : Mem} {ad : AD} {κ i k : Nat} (h : kT κ k = 1) : mV M ad κ i k = .long (mL M κ i k) := by simp only [mV, h]
theorem mV2 {M : Mem} {ad : AD} {κ i k : Nat} (n : Nat) (h : kT κ k = n + 2) : mV M ad κ i k = if mF M κ i k = true then .ref (ad (kR κ i k).1 (kR κ i k).2) else .null := by simp only [mV, h]
/-- what is known of a class of ours: its row of vwCl, its words -/
def Cls (κ : Nat) (C : String) (T : u_T) (N : Nat) (Ts : List Cond) : Prop := κ < 6 ∧ vwCl[κ]? = some (C, T, N) ∧ kN κ = N ∧ (∀ w ∈ u_ws C T N, w ∈ Ts) ∧ (∀ a, a < N → ∀ b, b < N → a ≠ b → (T a).2.1 ≠ (T b).2.1) ∧ ∃ ty : Nat → FieldType, ∀ k, k < N → parseFieldDescriptor (T k).2.2.1 = some (ty k)
section ROWS
variable {p : Program} {l : Launch} {e : Env} {R : Room} {s : State} {m : MethodId} {args : Array Value} {below : List Frame} {meth : Method} {c : Code} {H : Heap} {locs : List Loc} {cells slots : Nat} {Q : State → Prop}
variable {cc : ByteArray} {pc : Nat} {ls : Array Slot} {rest : List Value} {E : GE} {base : Nat} {M : Mem} {ad : AD} {κ i : Nat} {tys : List (ClassId × FieldType)} {Ts : List Cond} {own ref C : String} {T : u_T} {N index : Nat}
theorem r_get (hx : p.tables.exec = Jvm.exec) (hb : c.code = cc) (hts : ∀ w ∈ Ts, w.before args s = true) (hown : s.vm.findClass own = some m.cls) (hK : va_K (E.1, E.2.1) vwCl tys s) (hW : Wd E base M ad H) (hC : Cls κ C T N Ts)
    (k : Nat) (hk : k < N) (hlink : (Cond.fieldLink own index ref (T k).2.1 (T k).2.2.1).before args s = true) (hsame : ∀ x, s.fieldFound? (T k).1 (T k).2.1 (T k).2.2.1 = some x → s.fieldFound? ref (T k).2.1 (T k).2.2.1 = some x)
    (hex : mE M κ i = true) (hdg : decode cc pc = .ok (.getfield index, 3))
    (kk : W p l e R s m args below meth c H locs cells slots Q (F0 m (pc + 3) ls (mV M ad κ i k :: rest))) : W p l e R s m args below meth c H locs cells slots Q (F0 m pc ls (.ref (ad κ i) :: rest)) := by
  obtain ⟨h6, hc, hN, hin, -, -⟩ := hC
  have ho := (hW.1 κ i hex).2
  unfold oAt at ho
  rw [if_pos h6] at ho
  obtain ⟨cell, q1, q2, q3, q4⟩ := ho
  obtain ⟨hS, hfc, kC, hkC, hkind⟩ := hK.1 κ _ hc
  obtain ⟨cf, kf, fi, f, hi, hsl⟩ := hS k hk
  refine W.getf hx hb hown hlink (hsame _ hi) (u_facts hfc hkC (u_lays hts hin hk) hi).1 q1 (by rw [q3]; exact fun h => by cases h) (v := mV M ad κ i k) ?_ rfl rfl hdg kk
  rw [hsl]
  exact q4 k (by omega)
theorem r_getI (hx : p.tables.exec = Jvm.exec) (hb : c.code = cc) (hts : ∀ w ∈ Ts, w.before args s = true) (hown : s.vm.findClass own = some m.cls) (hK : va_K (E.1, E.2.1) vwCl tys s) (hW : Wd E base M ad H) (hC : Cls κ C T N Ts)
    (k : Nat) (hk : k < N) (hlink : (Cond.fieldLink own index ref (T k).2.1 (T k).2.2.1).before args s = true) (hsame : ∀ x, s.fieldFound? (T k).1 (T k).2.1 (T k).2.2.1 = some x → s.fieldFound? ref (T k).2.1 (T k).2.2.1 = some x) (ht : kT κ k = 0)
    (hex : mE M κ i = true) (hdg : decode cc pc = .ok (.getfield index, 3))
    (kk : W p l e R s m args below meth c H locs cells slots Q (F0 m (pc + 3) ls (.int (mI M κ i k) :: rest))) : W p l e R s m args below meth c H locs cells slots Q (F0 m pc ls (.ref (ad κ i) :: rest)) :=
  r_get hx hb hts hown hK hW hC k hk hlink hsame hex hdg (by rw [mV0 ht]; exact kk)
theorem r_getL (hx : p.tables.exec = Jvm.exec) (hb : c.code = cc) (hts : ∀ w ∈ Ts, w.before args s = true) (hown : s.vm.findClass own = some m.cls) (hK : va_K (E.1, E.2.1) vwCl tys s) (hW : Wd E base M ad H) (hC : Cls κ C T N Ts)
    (k : Nat) (hk : k < N) (hlink : (Cond.fieldLink own index ref (T k).2.1 (T k).2.2.1).before args s = true) (hsame : ∀ x, s.fieldFound? (T k).1 (T k).2.1 (T k).2.2.1 = some x → s.fieldFound? ref (T k).2.1 (T k).2.2.1 = some x) (ht : kT κ k = 1)
    (hex : mE M κ i = true) (hdg : decode cc pc = .ok (.getfield index, 3))
    (kk : W p l e R s m args below meth c H locs cells slots Q (F0 m (pc + 3) ls (.long (mL M κ i k) :: rest))) : W p l e R s m args below meth c H locs cells slots Q (F0 m pc ls (.ref (ad κ i) :: rest)) :=
  r_get hx hb hts hown hK hW hC k hk hlink hsame hex hdg (by rw [mV1 ht]; exact kk)
theorem r_getR {κ2 i2 : Nat} (hx : p.tables.exec = Jvm.exec) (hb : c.code = cc) (hts : ∀ w ∈ Ts, w.before args s = true) (hown : s.vm.findClass own = some m.cls) (hK : va_K (E.1, E.2.1) vwCl tys s) (hW : Wd E base M ad H) (hC : Cls κ C T N Ts)
    (k : Nat) (hk : k < N) (hlink : (Cond.fieldLink own index ref (T k).2.1 (T k).2.2.1).before args s = true) (hsame : ∀ x, s.fieldFound? (T k).1 (T k).2.1 (T k).2.2.1 = some x → s.fieldFound? ref (T k).2.1 (T k).2.2.1 = some x) (n : Nat) (ht : kT κ k = n + 2) (hr : kR κ i k = (κ2, i2))
    (hex : mE M κ i = true) (hfl : mF M κ i k = true) (hdg : decode cc pc = .ok (.getfield index, 3))
    (kk : W p l e R s m args below meth c H locs cells slots Q (F0 m (pc + 3) ls (.ref (ad κ2 i2) :: rest))) : W p l e R s m args below meth c H locs cells slots Q (F0 m pc ls (.ref (ad κ i) :: rest)) :=
  r_get hx hb hts hown hK hW hC k hk hlink hsame hex hdg (by rw [mV2 n ht, if_pos hfl, hr]; exact kk)
/-- a place of an object is written -/
theorem r_put0 {M1 : Mem} {v : Value} {ty : FieldType} (hx : p.tables.exec = Jvm.exec) (hb : c.code = cc) (hts : ∀ w ∈ Ts, w.before args s = true) (hown : s.vm.findClass own = some m.cls) (hK : va_K (E.1, E.2.1) vwCl tys s) (hW : Wd E base M ad H) (hS0 : va_S (fun q : Nat => base ≤ q) s.heap H locs) (hC : Cls κ C T N Ts)
    (k : Nat) (hk : k < N) (hlink : (Cond.fieldLink own index ref (T k).2.1 (T k).2.2.1).before args s = true) (hsame : ∀ x, s.fieldFound? (T k).1 (T k).2.1 (T k).2.2.1 = some x → s.fieldFound? ref (T k).2.1 (T k).2.2.1 = some x)
    (hfin : (T k).2.2.2 = false) (hd : parseFieldDescriptor (T k).2.2.1 = some ty) (hn : narrow ty v = v) (hfit : fits ty v = true)
    (hex : mE M κ i = true) (hM1 : ∀ H1 : Heap, oAt E M1 ad H1 κ i → (∀ q : Nat, q ≠ ad κ i → H1[q]? = H[q]?) → Wd E base M1 ad H1) (hv : mV M1 ad κ i = updV (mV M ad κ i) k v)
    (hdg : decode cc pc = .ok (.putfield index, 3))
    (kk : ∀ (H1 : Heap) (locs1 : List Loc), Wd E base M1 ad H1 → va_S (fun q : Nat => base ≤ q) s.heap H1 locs1 → W p l e R s m args below meth c H1 locs1 cells slots Q (F0 m (pc + 3) ls rest)) : W p l e R s m args below meth c H locs cells slots Q (F0 m pc ls (v :: .ref (ad κ i) :: rest)) := by
  obtain ⟨h6, hc, hN, hin, hnm, ty0, hty⟩ := hC
  have ho := (hW.1 κ i hex).2
  unfold oAt at ho
  rw [if_pos h6] at ho
  obtain ⟨cell, q1, q2, q3, q4⟩ := ho
  have hap := va_apart (own := own) hts hin ty0 hty hnm hK hc
  obtain ⟨hS, hfc, kC, hkC, hkind⟩ := hK.1 κ _ hc
  obtain ⟨cf, kf, fi, f, hi, hsl⟩ := hS k hk
  have hlay := hts _ (hin _ (u_in_lay hk))
  unfold u_lay at hlay
  rw [if_neg (by rw [hfin]; decide)] at hlay
  have hst := (u_facts hfc hkC (u_lays hts hin hk) hi).1
  have h6' := u_store hfc hkC hkind hlay hi hd hn hfit
  subst hN
  refine W.putK hx hb (f := f) ⟨hown, hlink, ⟨_, _, _, hsame _ hi⟩, hst⟩ (by rw [q2]; exact h6') q1 q3 (by rw [hsl]; exact k2_hasslot (q4 k hk)) rfl rfl hdg fun H' e1 e2 e3 => ?_
  rw [hsl] at e1 ⊢
  refine kk H' _ (hM1 H' ?_ e3) (hS0.put e2 e3 (hW.1 κ i hex).1)
  unfold oAt
  rw [if_pos h6, hv]
  exact ⟨_, e1, q2, q3, t_set q4 hap hk v⟩
/-- .. a final one, in a constructor -/
theorem r_putF0 {M1 : Mem} {v : Value} {ty : FieldType} (hx : p.tables.exec = Jvm.exec) (hb : c.code = cc) (hts : ∀ w ∈ Ts, w.before args s = true) (hown : s.vm.findClass own = some m.cls) (hK : va_K (E.1, E.2.1) vwCl tys s) (hW : Wd E base M ad H) (hS0 : va_S (fun q : Nat => base ≤ q) s.heap H locs) (hC : Cls κ C T N Ts)
    (k : Nat) (hk : k < N) (hlink : (Cond.fieldLink own index ref (T k).2.1 (T k).2.2.1).before args s = true) (hsame : ∀ x, s.fieldFound? (T k).1 (T k).2.1 (T k).2.2.1 = some x → s.fieldFound? ref (T k).2.1 (T k).2.2.1 = some x)
    (hfin : (T k).2.2.2 = true) (hin2 : meth.name = "<init>") (hdecl : (T k).1 = own) (hd : parseFieldDescriptor (T k).2.2.1 = some ty) (hn : narrow ty v = v) (hfit : fits ty v = true)
    (hex : mE M κ i = true) (hM1 : ∀ H1 : Heap, oAt E M1 ad H1 κ i → (∀ q : Nat, q ≠ ad κ i → H1[q]? = H[q]?) → Wd E base M1 ad H1) (hv : mV M1 ad κ i = updV (mV M ad κ i) k v)
    (hdg : decode cc pc = .ok (.putfield index, 3))
    (kk : ∀ (H1 : Heap) (locs1 : List Loc), Wd E base M1 ad H1 → va_S (fun q : Nat => base ≤ q) s.heap H1 locs1 → W p l e R s m args below meth c H1 locs1 cells slots Q (F0 m (pc + 3) ls rest)) : W p l e R s m args below meth c H locs cells slots Q (F0 m pc ls (v :: .ref (ad κ i) :: rest)) := by
  obtain ⟨h6, hc, hN, hin, hnm, ty0, hty⟩ := hC
  have ho := (hW.1 κ i hex).2
  unfold oAt at ho
  rw [if_pos h6] at ho
  obtain ⟨cell, q1, q2, q3, q4⟩ := ho
  have hap := va_apart (own := own) hts hin ty0 hty hnm hK hc
  obtain ⟨hS, hfc, kC, hkC, hkind⟩ := hK.1 κ _ hc
  obtain ⟨cf, kf, fi, f, hi, hsl⟩ := hS k hk
  have hlay := hts _ (hin _ (u_in_lay hk))
  unfold u_lay at hlay
  rw [if_pos hfin] at hlay
  have hst := (u_facts hfc hkC (u_lays hts hin hk) hi).1
  have hcf : m.cls = cf := by
    obtain ⟨_, _, c', _, _, _, -, -, hf', -, -, -, hown2, -⟩ := Cond.laysFinal_spec hlay
    have e1 : c' = cf := by have := hi.symm.trans hf'; simp at this; exact this.1.symm
    rw [hdecl] at hown2
    rw [← e1]; exact Option.some.inj (hown.symm.trans hown2)
  have h6' := u_fits hfc hkC hkind (Or.inr hlay) hi hd hn hfit
  subst hN
  refine W.putFinK hx hb hown hlink (hsame _ hi) hst hcf hin2 (by rw [q2]; exact h6') q1 q3 (by rw [hsl]; exact k2_hasslot (q4 k hk)) rfl rfl hdg fun H' e1 e2 e3 => ?_
  rw [hsl] at e1 ⊢
  refine kk H' _ (hM1 H' ?_ e3) (hS0.put e2 e3 (hW.1 κ i hex).1)
  unfold oAt
  rw [if_pos h6, hv]
  exact ⟨_, e1, q2, q3, t_set q4 hap hk v⟩
end ROWS
end
section
theorem mI_wI (M : Mem) (κ i k a b c : Nat) (v : Int32) : mI (wI M κ i k v) a b c = if a = κ ∧ b = i ∧ c = k then v else mI M a b c := rfl
theorem mL_wL (M : Mem) (κ i k a b c : Nat) (v : Int64) : mL (wL M κ i k v) a b c = if a = κ ∧ b = i ∧ c = k then v else mL M a b c := rfl
theorem mF_wF (M : Mem) (κ i k a b c : Nat) (v : Bool) : mF (wF M κ i k v) a b c = if a = κ ∧ b = i ∧ c = k then v else mF M a b c := rfl
theorem Wd_wI {E : GE} {base : Nat} {M : Mem} {ad : AD} {H H1 : Heap} {κ i k : Nat} {v : Int32} (h : Wd E base M ad H) (he : mE M κ i = true) (ho : oAt E (wI M κ i k v) ad H1 κ i) (oq : ∀ q : Nat, q ≠ ad κ i → H1[q]? = H[q]?) : Wd E base (wI M κ i k v) ad H1 :=
  h.put he (fun _ _ => rfl) (fun a b hc k2 => ⟨by rw [mI_wI]; exact if_neg (fun e => hc ⟨e.1, e.2.1⟩), rfl, rfl⟩) (fun k2 hk => h.2.2 κ i k2 he hk) ho oq
theorem Wd_wL {E : GE} {base : Nat} {M : Mem} {ad : AD} {H H1 : Heap} {κ i k : Nat} {v : Int64} (h : Wd E base M ad H) (he : mE M κ i = true) (ho : oAt E (wL M κ i k v) ad H1 κ i) (oq : ∀ q : Nat, q ≠ ad κ i → H1[q]? = H[q]?) : Wd E base (wL M κ i k v) ad H1 :=
  h.put he (fun _ _ => rfl) (fun a b hc k2 => ⟨rfl, by rw [mL_wL]; exact if_neg (fun e => hc ⟨e.1, e.2.1⟩), rfl⟩) (fun k2 hk => h.2.2 κ i k2 he hk) ho oq
theorem Wd_wF {E : GE} {base : Nat} {M : Mem} {ad : AD} {H H1 : Heap} {κ i k : Nat} {v : Bool} (h : Wd E base M ad H) (he : mE M κ i = true) (ht : v = true → mE M (kR κ i k).1 (kR κ i k).2 = true) (ho : oAt E (wF M κ i k v) ad H1 κ i) (oq : ∀ q : Nat, q ≠ ad κ i → H1[q]? = H[q]?) : Wd E base (wF M κ i k v) ad H1 :=
  h.put he (fun _ _ => rfl) (fun a b hc k2 => ⟨rfl, rfl, by rw [mF_wF]; exact if_neg (fun e => hc ⟨e.1, e.2.1⟩)⟩) (fun k2 hk => by
    rw [mF_wF] at hk
    by_cases hc : k2 = k
    · rw [if_pos ⟨rfl, rfl, hc⟩] at hk; rw [hc]; exact ht hk
    · rw [if_neg (fun e => hc e.2.2)] at hk; exact h.2.2 κ i k2 he hk) ho oq
theorem mV_wI {M : Mem} {ad : AD} {κ i k : Nat} {v : Int32} (ht : kT κ k = 0) : mV (wI M κ i k v) ad κ i = updV (mV M ad κ i) k (.int v) := by
  funext j
  unfold updV
  by_cases hj : j = k
  · rw [if_pos hj, hj, mV0 ht, mI_wI, if_pos ⟨rfl, rfl, rfl⟩]
  · rw [if_neg hj]
    exact mV_same (by rw [mI_wI, if_neg (fun e => hj e.2.2)]) rfl rfl
theorem mV_wL {M : Mem} {ad : AD} {κ i k : Nat} {v : Int64} (ht : kT κ k = 1) : mV (wL M κ i k v) ad κ i = updV (mV M ad κ i) k (.long v) := by
  funext j
  unfold updV
  by_cases hj : j = k
  · rw [if_pos hj, hj, mV1 ht, mL_wL, if_pos ⟨rfl, rfl, rfl⟩]
  · rw [if_neg hj]
    exact mV_same rfl (by rw [mL_wL, if_neg (fun e => hj e.2.2)]) rfl
theorem mV_wFt {M : Mem} {ad : AD} {κ i k κ2 i2 : Nat} (n : Nat) (ht : kT κ k = n + 2) (hr : kR κ i k = (κ2, i2)) : mV (wF M κ i k true) ad κ i = updV (mV M ad κ i) k (.ref (ad κ2 i2)) := by
  funext j
  unfold updV
  by_cases hj : j = k
  · rw [if_pos hj, hj, mV2 n ht, mF_wF]; simp [hr]
  · rw [if_neg hj]
    exact mV_same rfl rfl (by rw [mF_wF, if_neg (fun e => hj e.2.2)])
theorem mV_wFf {M : Mem} {ad : AD} {κ i k : Nat} (n : Nat) (ht : kT κ k = n + 2) : mV (wF M κ i k false) ad κ i = updV (mV M ad κ i) k .null := by
  funext j
  unfold updV
  by_cases hj : j = k
  · rw [if_pos hj, hj, mV2 n ht, mF_wF]; simp
  · rw [if_neg hj]
    exact mV_same rfl rfl (by rw [mF_wF, if_neg (fun e => hj e.2.2)])
theorem nar_z {v : Int32} (h : v = 0 ∨ v = 1) : narrow .boolean (.int v) = .int v ∧ fits .boolean (.int v) = true := by
  rcases h with rfl | rfl <;> exact ⟨by decide +kernel, by decide +kernel⟩
section ROWS2
variable {p : Program} {l : Launch} {e : Env} {R : Room} {s : State} {m : MethodId} {args : Array Value} {below : List Frame} {meth : Method} {c : Code} {H : Heap} {locs : List Loc} {cells slots : Nat} {Q : State → Prop}
variable {cc : ByteArray} {pc : Nat} {ls : Array Slot} {rest : List Value} {E : GE} {base : Nat} {M : Mem} {ad : AD} {κ i : Nat} {tys : List (ClassId × FieldType)} {Ts : List Cond} {own ref C : String} {T : u_T} {N index : Nat}
theorem r_putI {v : Int32} (hx : p.tables.exec = Jvm.exec) (hb : c.code = cc) (hts : ∀ w ∈ Ts, w.before args s = true) (hown : s.vm.findClass own = some m.cls) (hK : va_K (E.1, E.2.1) vwCl tys s) (hW : Wd E base M ad H) (hS0 : va_S (fun q : Nat => base ≤ q) s.heap H locs) (hC : Cls κ C T N Ts)
    (k : Nat) (hk : k < N) (hlink : (Cond.fieldLink own index ref (T k).2.1 (T k).2.2.1).before args s = true) (hsame : ∀ x, s.fieldFound? (T k).1 (T k).2.1 (T k).2.2.1 = some x → s.fieldFound? ref (T k).2.1 (T k).2.2.1 = some x)
    (hfin : (T k).2.2.2 = false) (hd : parseFieldDescriptor (T k).2.2.1 = some .int) (ht : kT κ k = 0) 
    (hex : mE M κ i = true) (hdg : decode cc pc = .ok (.putfield index, 3))
    (kk : ∀ (M1 : Mem) (H1 : Heap) (locs1 : List Loc), M1 = wI M κ i k v → Wd E base M1 ad H1 → va_S (fun q : Nat => base ≤ q) s.heap H1 locs1 → W p l e R s m args below meth c H1 locs1 cells slots Q (F0 m (pc + 3) ls rest)) : W p l e R s m args below meth c H locs cells slots Q (F0 m pc ls (.int v :: .ref (ad κ i) :: rest)) :=
  r_put0 hx hb hts hown hK hW hS0 hC k hk hlink hsame hfin hd rfl rfl hex (fun H1 => Wd_wI hW hex) (mV_wI ht) hdg (fun H1 locs1 h1 h2 => kk _ H1 locs1 rfl h1 h2)
theorem r_putZ {v : Int32} (hx : p.tables.exec = Jvm.exec) (hb : c.code = cc) (hts : ∀ w ∈ Ts, w.before args s = true) (hown : s.vm.findClass own = some m.cls) (hK : va_K (E.1, E.2.1) vwCl tys s) (hW : Wd E base M ad H) (hS0 : va_S (fun q : Nat => base ≤ q) s.heap H locs) (hC : Cls κ C T N Ts)
    (k : Nat) (hk : k < N) (hlink : (Cond.fieldLink own index ref (T k).2.1 (T k).2.2.1).before args s = true) (hsame : ∀ x, s.fieldFound? (T k).1 (T k).2.1 (T k).2.2.1 = some x → s.fieldFound? ref (T k).2.1 (T k).2.2.1 = some x)
    (hfin : (T k).2.2.2 = false) (hd : parseFieldDescriptor (T k).2.2.1 = some .boolean) (ht : kT κ k = 0) (hz : v = 0 ∨ v = 1)
    (hex : mE M κ i = true) (hdg : decode cc pc = .ok (.putfield index, 3))
    (kk : ∀ (M1 : Mem) (H1 : Heap) (locs1 : List Loc), M1 = wI M κ i k v → Wd E base M1 ad H1 → va_S (fun q : Nat => base ≤ q) s.heap H1 locs1 → W p l e R s m args below meth c H1 locs1 cells slots Q (F0 m (pc + 3) ls rest)) : W p l e R s m args below meth c H locs cells slots Q (F0 m pc ls (.int v :: .ref (ad κ i) :: rest)) :=
  r_put0 hx hb hts hown hK hW hS0 hC k hk hlink hsame hfin hd (nar_z hz).1 (nar_z hz).2 hex (fun H1 => Wd_wI hW hex) (mV_wI ht) hdg (fun H1 locs1 h1 h2 => kk _ H1 locs1 rfl h1 h2)
theorem r_putL {v : Int64} (hx : p.tables.exec = Jvm.exec) (hb : c.code = cc) (hts : ∀ w ∈ Ts, w.before args s = true) (hown : s.vm.findClass own = some m.cls) (hK : va_K (E.1, E.2.1) vwCl tys s) (hW : Wd E base M ad H) (hS0 : va_S (fun q : Nat => base ≤ q) s.heap H locs) (hC : Cls κ C T N Ts)
    (k : Nat) (hk : k < N) (hlink : (Cond.fieldLink own index ref (T k).2.1 (T k).2.2.1).before args s = true) (hsame : ∀ x, s.fieldFound? (T k).1 (T k).2.1 (T k).2.2.1 = some x → s.fieldFound? ref (T k).2.1 (T k).2.2.1 = some x)
    (hfin : (T k).2.2.2 = false) (hd : parseFieldDescriptor (T k).2.2.1 = some .long) (ht : kT κ k = 1) 
    (hex : mE M κ i = true) (hdg : decode cc pc = .ok (.putfield index, 3))
    (kk : ∀ (M1 : Mem) (H1 : Heap) (locs1 : List Loc), M1 = wL M κ i k v → Wd E base M1 ad H1 → va_S (fun q : Nat => base ≤ q) s.heap H1 locs1 → W p l e R s m args below meth c H1 locs1 cells slots Q (F0 m (pc + 3) ls rest)) : W p l e R s m args below meth c H locs cells slots Q (F0 m pc ls (.long v :: .ref (ad κ i) :: rest)) :=
  r_put0 hx hb hts hown hK hW hS0 hC k hk hlink hsame hfin hd rfl rfl hex (fun H1 => Wd_wL hW hex) (mV_wL ht) hdg (fun H1 locs1 h1 h2 => kk _ H1 locs1 rfl h1 h2)
theorem r_putR {κ2 i2 : Nat} {ty : FieldType} (hx : p.tables.exec = Jvm.exec) (hb : c.code = cc) (hts : ∀ w ∈ Ts, w.before args s = true) (hown : s.vm.findClass own = some m.cls) (hK : va_K (E.1, E.2.1) vwCl tys s) (hW : Wd E base M ad H) (hS0 : va_S (fun q : Nat => base ≤ q) s.heap H locs) (hC : Cls κ C T N Ts)
    (k : Nat) (hk : k < N) (hlink : (Cond.fieldLink own index ref (T k).2.1 (T k).2.2.1).before args s = true) (hsame : ∀ x, s.fieldFound? (T k).1 (T k).2.1 (T k).2.2.1 = some x → s.fieldFound? ref (T k).2.1 (T k).2.2.1 = some x)
    (hfin : (T k).2.2.2 = false) (hd : parseFieldDescriptor (T k).2.2.1 = some ty) (n : Nat) (ht : kT κ k = n + 2) (hr : kR κ i k = (κ2, i2)) (hn1 : narrow ty (.ref (ad κ2 i2)) = .ref (ad κ2 i2)) (hn2 : fits ty (.ref (ad κ2 i2)) = true) (hex2 : mE M κ2 i2 = true)
    (hex : mE M κ i = true) (hdg : decode cc pc = .ok (.putfield index, 3))
    (kk : ∀ (M1 : Mem) (H1 : Heap) (locs1 : List Loc), M1 = wF M κ i k true → Wd E base M1 ad H1 → va_S (fun q : Nat => base ≤ q) s.heap H1 locs1 → W p l e R s m args below meth c H1 locs1 cells slots Q (F0 m (pc + 3) ls rest)) : W p l e R s m args below meth c H locs cells slots Q (F0 m pc ls (.ref (ad κ2 i2) :: .ref (ad κ i) :: rest)) :=
  r_put0 hx hb hts hown hK hW hS0 hC k hk hlink hsame hfin hd hn1 hn2 hex (fun H1 => Wd_wF hW hex (fun _ => by rw [hr]; exact hex2)) (mV_wFt n ht hr) hdg (fun H1 locs1 h1 h2 => kk _ H1 locs1 rfl h1 h2)
theorem r_putFI {v : Int32} (hx : p.tables.exec = Jvm.exec) (hb : c.code = cc) (hts : ∀ w ∈ Ts, w.before args s = true) (hown : s.vm.findClass own = some m.cls) (hK : va_K (E.1, E.2.1) vwCl tys s) (hW : Wd E base M ad H) (hS0 : va_S (fun q : Nat => base ≤ q) s.heap H locs) (hC : Cls κ C T N Ts)
    (k : Nat) (hk : k < N) (hlink : (Cond.fieldLink own index ref (T k).2.1 (T k).2.2.1).before args s = true) (hsame : ∀ x, s.fieldFound? (T k).1 (T k).2.1 (T k).2.2.1 = some x → s.fieldFound? ref (T k).2.1 (T k).2.2.1 = some x)
    (hfin : (T k).2.2.2 = true) (hin2 : meth.name = "<init>") (hdecl : (T k).1 = own) (hd : parseFieldDescriptor (T k).2.2.1 = some .int) (ht : kT κ k = 0) 
    (hex : mE M κ i = true) (hdg : decode cc pc = .ok (.putfield index, 3))
    (kk : ∀ (M1 : Mem) (H1 : Heap) (locs1 : List Loc), M1 = wI M κ i k v → Wd E base M1 ad H1 → va_S (fun q : Nat => base ≤ q) s.heap H1 locs1 → W p l e R s m args below meth c H1 locs1 cells slots Q (F0 m (pc + 3) ls rest)) : W p l e R s m args below meth c H locs cells slots Q (F0 m pc ls (.int v :: .ref (ad κ i) :: rest)) :=
  r_putF0 hx hb hts hown hK hW hS0 hC k hk hlink hsame hfin hin2 hdecl hd rfl rfl hex (fun H1 => Wd_wI hW hex) (mV_wI ht) hdg (fun H1 locs1 h1 h2 => kk _ H1 locs1 rfl h1 h2)
theorem r_putFZ {v : Int32} (hx : p.tables.exec = Jvm.exec) (hb : c.code = cc) (hts : ∀ w ∈ Ts, w.before args s = true) (hown : s.vm.findClass own = some m.cls) (hK : va_K (E.1, E.2.1) vwCl tys s) (hW : Wd E base M ad H) (hS0 : va_S (fun q : Nat => base ≤ q) s.heap H locs) (hC : Cls κ C T N Ts)
    (k : Nat) (hk : k < N) (hlink : (Cond.fieldLink own index ref (T k).2.1 (T k).2.2.1).before args s = true) (hsame : ∀ x, s.fieldFound? (T k).1 (T k).2.1 (T k).2.2.1 = some x → s.fieldFound? ref (T k).2.1 (T k).2.2.1 = some x)
    (hfin : (T k).2.2.2 = true) (hin2 : meth.name = "<init>") (hdecl : (T k).1 = own) (hd : parseFieldDescriptor (T k).2.2.1 = some .boolean) (ht : kT κ k = 0) (hz : v = 0 ∨ v = 1)
    (hex : mE M κ i = true) (hdg : decode cc pc = .ok (.putfield index, 3))
    (kk : ∀ (M1 : Mem) (H1 : Heap) (locs1 : List Loc), M1 = wI M κ i k v → Wd E base M1 ad H1 → va_S (fun q : Nat => base ≤ q) s.heap H1 locs1 → W p l e R s m args below meth c H1 locs1 cells slots Q (F0 m (pc + 3) ls rest)) : W p l e R s m args below meth c H locs cells slots Q (F0 m pc ls (.int v :: .ref (ad κ i) :: rest)) :=
  r_putF0 hx hb hts hown hK hW hS0 hC k hk hlink hsame hfin hin2 hdecl hd (nar_z hz).1 (nar_z hz).2 hex (fun H1 => Wd_wI hW hex) (mV_wI ht) hdg (fun H1 locs1 h1 h2 => kk _ H1 locs1 rfl h1 h2)
theorem r_putFL {v : Int64} (hx : p.tables.exec = Jvm.exec) (hb : c.code = cc) (hts : ∀ w ∈ Ts, w.before args s = true) (hown : s.vm.findClass own = some m.cls) (hK : va_K (E.1, E.2.1) vwCl tys s) (hW : Wd E base M ad H) (hS0 : va_S (fun q : Nat => base ≤ q) s.heap H locs) (hC : Cls κ C T N Ts)
    (k : Nat) (hk : k < N) (hlink : (Cond.fieldLink own index ref (T k).2.1 (T k).2.2.1).before args s = true) (hsame : ∀ x, s.fieldFound? (T k).1 (T k).2.1 (T k).2.2.1 = some x → s.fieldFound? ref (T k).2.1 (T k).2.2.1 = some x)
    (hfin : (T k).2.2.2 = true) (hin2 : meth.name = "<init>") (hdecl : (T k).1 = own) (hd : parseFieldDescriptor (T k).2.2.1 = some .long) (ht : kT κ k = 1) 
    (hex : mE M κ i = true) (hdg : decode cc pc = .ok (.putfield index, 3))
    (kk : ∀ (M1 : Mem) (H1 : Heap) (locs1 : List Loc), M1 = wL M κ i k v → Wd E base M1 ad H1 → va_S (fun q : Nat => base ≤ q) s.heap H1 locs1 → W p l e R s m args below meth c H1 locs1 cells slots Q (F0 m (pc + 3) ls rest)) : W p l e R s m args below meth c H locs cells slots Q (F0 m pc ls (.long v :: .ref (ad κ i) :: rest)) :=
  r_putF0 hx hb hts hown hK hW hS0 hC k hk hlink hsame hfin hin2 hdecl hd rfl rfl hex (fun H1 => Wd_wL hW hex) (mV_wL ht) hdg (fun H1 locs1 h1 h2 => kk _ H1 locs1 rfl h1 h2)
theorem r_putFR {κ2 i2 : Nat} {ty : FieldType} (hx : p.tables.exec = Jvm.exec) (hb : c.code = cc) (hts : ∀ w ∈ Ts, w.before args s = true) (hown : s.vm.findClass own = some m.cls) (hK : va_K (E.1, E.2.1) vwCl tys s) (hW : Wd E base M ad H) (hS0 : va_S (fun q : Nat => base ≤ q) s.heap H locs) (hC : Cls κ C T N Ts)
    (k : Nat) (hk : k < N) (hlink : (Cond.fieldLink own index ref (T k).2.1 (T k).2.2.1).before args s = true) (hsame : ∀ x, s.fieldFound? (T k).1 (T k).2.1 (T k).2.2.1 = some x → s.fieldFound? ref (T k).2.1 (T k).2.2.1 = some x)
    (hfin : (T k).2.2.2 = true) (hin2 : meth.name = "<init>") (hdecl : (T k).1 = own) (hd : parseFieldDescriptor (T k).2.2.1 = some ty) (n : Nat) (ht : kT κ k = n + 2) (hr : kR κ i k = (κ2, i2)) (hn1 : narrow ty (.ref (ad κ2 i2)) = .ref (ad κ2 i2)) (hn2 : fits ty (.ref (ad κ2 i2)) = true) (hex2 : mE M κ2 i2 = true)
    (hex : mE M κ i = true) (hdg : decode cc pc = .ok (.putfield index, 3))
    (kk : ∀ (M1 : Mem) (H1 : Heap) (locs1 : List Loc), M1 = wF M κ i k true → Wd E base M1 ad H1 → va_S (fun q : Nat => base ≤ q) s.heap H1 locs1 → W p l e R s m args below meth c H1 locs1 cells slots Q (F0 m (pc + 3) ls rest)) : W p l e R s m args below meth c H locs cells slots Q (F0 m pc ls (.ref (ad κ2 i2) :: .ref (ad κ i) :: rest)) :=
  r_putF0 hx hb hts hown hK hW hS0 hC k hk hlink hsame hfin hin2 hdecl hd hn1 hn2 hex (fun H1 => Wd_wF hW hex (fun _ => by rw [hr]; exact hex2)) (mV_wFt n ht hr) hdg (fun H1 locs1 h1 h2 => kk _ H1 locs1 rfl h1 h2)

/-! arrays -/
theorem oAt_arr {E : GE} {M : Mem} {ad : AD} {H : Heap} {κ i : Nat} (h : oAt E M ad H κ i) (h6 : 6 ≤ κ) : H[ad κ i]? = some (arrV (E.2.2 (kA κ)) (kLen κ) (mV M ad κ i)) := by
  unfold oAt at h
  rw [if_neg (by omega)] at h
  exact h
def tys4 (E : GE) : List (ClassId × FieldType) := [(E.2.2 0, .int), (E.2.2 1, .long), (E.2.2 2, .boolean), (E.2.2 3, .object RX2)]
theorem r_alen {v : Int32} (hx : p.tables.exec = Jvm.exec) (hb : c.code = cc) (hK : va_K (E.1, E.2.1) vwCl (tys4 E) s) (hW : Wd E base M ad H) (h6 : 6 ≤ κ) (a : Nat) (ha : kA κ = a) (ty : FieldType) (ht : (tys4 E)[a]? = some (E.2.2 a, ty)) (hv : Int32.ofNat (kLen κ) = v) (hex : mE M κ i = true) (hdg : decode cc pc = .ok (.arraylength, 1))
    (kk : W p l e R s m args below meth c H locs cells slots Q (F0 m (pc + 1) ls (.int v :: rest))) : W p l e R s m args below meth c H locs cells slots Q (F0 m pc ls (.ref (ad κ i) :: rest)) := by
  have hc := oAt_arr (hW.1 κ i hex).2 h6
  subst ha
  subst hv
  refine W.alen (ty := ty) hx hb hc ((hK.2 _ _ ht).1 _ _) (by rw [arrV_size] <;> rfl) rfl rfl hdg kk

theorem r_iald (hx : p.tables.exec = Jvm.exec) (hb : c.code = cc) (hK : va_K (E.1, E.2.1) vwCl (tys4 E) s) (hW : Wd E base M ad H) (h6 : 6 ≤ κ) (ha : kA κ = 0) (ht : ∀ k, kT κ k = 0) (len : Nat) (hlen : kLen κ = len) {x : Int32} (hin : vp_in x len) (hex : mE M κ i = true) (hdg : decode cc pc = .ok (.iaload, 1))
    (kk : W p l e R s m args below meth c H locs cells slots Q (F0 m (pc + 1) ls (.int (mI M κ i x.toNatClampNeg) :: rest))) : W p l e R s m args below meth c H locs cells slots Q (F0 m pc ls (.int x :: .ref (ad κ i) :: rest)) := by
  have hc := oAt_arr (hW.1 κ i hex).2 h6
  subst hlen
  have hlt : x.toNatClampNeg < kLen κ := Nat.not_le.mp fun q => hin (Or.inr q)
  exact W.iald (v := .int (mI M κ i x.toNatClampNeg)) hx hb hc (by rw [ha]; exact (hK.2 0 _ rfl).1 _ _) (fun q => by cases q) (by show ¬ (x < 0 ∨ (arrV _ _ _).slots.size ≤ _); rw [arrV_size]; exact hin) (by show (arrV _ _ _).slots[_]? = _; rw [arrV_read _ _ hlt, mV0 (ht _)]) rfl rfl hdg kk
theorem r_iast (hx : p.tables.exec = Jvm.exec) (hb : c.code = cc) (hK : va_K (E.1, E.2.1) vwCl (tys4 E) s) (hW : Wd E base M ad H) (hS : va_S (fun q : Nat => base ≤ q) s.heap H locs) (h6 : 6 ≤ κ) (ha : kA κ = 0) (ht : ∀ k, kT κ k = 0) (len : Nat) (hlen : kLen κ = len) {x : Int32} {v : Int32}  (hin : vp_in x len) (hex : mE M κ i = true) (hdg : decode cc pc = .ok (.iastore, 1))
    (kk : ∀ (M1 : Mem) (H1 : Heap) (locs1 : List Loc), M1 = wI M κ i x.toNatClampNeg v → Wd E base M1 ad H1 → va_S (fun q : Nat => base ≤ q) s.heap H1 locs1 → W p l e R s m args below meth c H1 locs1 cells slots Q (F0 m (pc + 1) ls rest)) : W p l e R s m args below meth c H locs cells slots Q (F0 m pc ls (.int v :: .int x :: .ref (ad κ i) :: rest)) := by
  have hc := oAt_arr (hW.1 κ i hex).2 h6
  subst hlen
  refine W.iast hx hb hc (by rw [ha]; exact (hK.2 0 _ rfl).1 _ _) (fun q => by cases q) (by show ¬ (x < 0 ∨ (arrV _ _ _).slots.size ≤ _); rw [arrV_size]; exact hin) rfl rfl hdg fun H1 e1 z oq => ?_
  refine kk _ H1 _ rfl (Wd_wI hW hex ?_ oq) (hS.put z oq (hW.1 κ i hex).1)
  unfold oAt
  rw [if_neg (by omega), mV_wI (ht _), e1, arrV_store]

theorem r_zald (hx : p.tables.exec = Jvm.exec) (hb : c.code = cc) (hK : va_K (E.1, E.2.1) vwCl (tys4 E) s) (hW : Wd E base M ad H) (h6 : 6 ≤ κ) (ha : kA κ = 2) (ht : ∀ k, kT κ k = 0) (len : Nat) (hlen : kLen κ = len) {x : Int32} (hin : vp_in x len) (hex : mE M κ i = true) (hdg : decode cc pc = .ok (.baload, 1))
    (kk : W p l e R s m args below meth c H locs cells slots Q (F0 m (pc + 1) ls (.int (mI M κ i x.toNatClampNeg) :: rest))) : W p l e R s m args below meth c H locs cells slots Q (F0 m pc ls (.int x :: .ref (ad κ i) :: rest)) := by
  have hc := oAt_arr (hW.1 κ i hex).2 h6
  subst hlen
  have hlt : x.toNatClampNeg < kLen κ := Nat.not_le.mp fun q => hin (Or.inr q)
  exact W.zald (v := .int (mI M κ i x.toNatClampNeg)) hx hb hc (by rw [ha]; exact (hK.2 2 _ rfl).1 _ _) (fun q => by cases q) (by show ¬ (x < 0 ∨ (arrV _ _ _).slots.size ≤ _); rw [arrV_size]; exact hin) (by show (arrV _ _ _).slots[_]? = _; rw [arrV_read _ _ hlt, mV0 (ht _)]) rfl rfl hdg kk
theorem r_zast (hx : p.tables.exec = Jvm.exec) (hb : c.code = cc) (hK : va_K (E.1, E.2.1) vwCl (tys4 E) s) (hW : Wd E base M ad H) (hS : va_S (fun q : Nat => base ≤ q) s.heap H locs) (h6 : 6 ≤ κ) (ha : kA κ = 2) (ht : ∀ k, kT κ k = 0) (len : Nat) (hlen : kLen κ = len) {x : Int32} {v : Int32} (hz : v = 0 ∨ v = 1) (hin : vp_in x len) (hex : mE M κ i = true) (hdg : decode cc pc = .ok (.bastore, 1))
    (kk : ∀ (M1 : Mem) (H1 : Heap) (locs1 : List Loc), M1 = wI M κ i x.toNatClampNeg v → Wd E base M1 ad H1 → va_S (fun q : Nat => base ≤ q) s.heap H1 locs1 → W p l e R s m args below meth c H1 locs1 cells slots Q (F0 m (pc + 1) ls rest)) : W p l e R s m args below meth c H locs cells slots Q (F0 m pc ls (.int v :: .int x :: .ref (ad κ i) :: rest)) := by
  have hc := oAt_arr (hW.1 κ i hex).2 h6
  subst hlen
  refine W.zast hx hb hc (by rw [ha]; exact (hK.2 2 _ rfl).1 _ _) (fun q => by cases q) (by show ¬ (x < 0 ∨ (arrV _ _ _).slots.size ≤ _); rw [arrV_size]; exact hin) rfl rfl hdg fun H1 e1 z oq => ?_
  refine kk _ H1 _ rfl (Wd_wI hW hex ?_ oq) (hS.put z oq (hW.1 κ i hex).1)
  unfold oAt
  rw [if_neg (by omega), mV_wI (ht _), e1, arrV_store, (nar_z hz).1]

theorem r_lald (hx : p.tables.exec = Jvm.exec) (hb : c.code = cc) (hK : va_K (E.1, E.2.1) vwCl (tys4 E) s) (hW : Wd E base M ad H) (h6 : 6 ≤ κ) (ha : kA κ = 1) (ht : ∀ k, kT κ k = 1) (len : Nat) (hlen : kLen κ = len) {x : Int32} (hin : vp_in x len) (hex : mE M κ i = true) (hdg : decode cc pc = .ok (.laload, 1))
    (kk : W p l e R s m args below meth c H locs cells slots Q (F0 m (pc + 1) ls (.long (mL M κ i x.toNatClampNeg) :: rest))) : W p l e R s m args below meth c H locs cells slots Q (F0 m pc ls (.int x :: .ref (ad κ i) :: rest)) := by
  have hc := oAt_arr (hW.1 κ i hex).2 h6
  subst hlen
  have hlt : x.toNatClampNeg < kLen κ := Nat.not_le.mp fun q => hin (Or.inr q)
  exact W.lald (v := .long (mL M κ i x.toNatClampNeg)) hx hb hc (by rw [ha]; exact (hK.2 1 _ rfl).1 _ _) (fun q => by cases q) (by show ¬ (x < 0 ∨ (arrV _ _ _).slots.size ≤ _); rw [arrV_size]; exact hin) (by show (arrV _ _ _).slots[_]? = _; rw [arrV_read _ _ hlt, mV1 (ht _)]) rfl rfl hdg kk
theorem r_last (hx : p.tables.exec = Jvm.exec) (hb : c.code = cc) (hK : va_K (E.1, E.2.1) vwCl (tys4 E) s) (hW : Wd E base M ad H) (hS : va_S (fun q : Nat => base ≤ q) s.heap H locs) (h6 : 6 ≤ κ) (ha : kA κ = 1) (ht : ∀ k, kT κ k = 1) (len : Nat) (hlen : kLen κ = len) {x : Int32} {v : Int64}  (hin : vp_in x len) (hex : mE M κ i = true) (hdg : decode cc pc = .ok (.lastore, 1))
    (kk : ∀ (M1 : Mem) (H1 : Heap) (locs1 : List Loc), M1 = wL M κ i x.toNatClampNeg v → Wd E base M1 ad H1 → va_S (fun q : Nat => base ≤ q) s.heap H1 locs1 → W p l e R s m args below meth c H1 locs1 cells slots Q (F0 m (pc + 1) ls rest)) : W p l e R s m args below meth c H locs cells slots Q (F0 m pc ls (.long v :: .int x :: .ref (ad κ i) :: rest)) := by
  have hc := oAt_arr (hW.1 κ i hex).2 h6
  subst hlen
  refine W.last hx hb hc (by rw [ha]; exact (hK.2 1 _ rfl).1 _ _) (fun q => by cases q) (by show ¬ (x < 0 ∨ (arrV _ _ _).slots.size ≤ _); rw [arrV_size]; exact hin) rfl rfl hdg fun H1 e1 z oq => ?_
  refine kk _ H1 _ rfl (Wd_wL hW hex ?_ oq) (hS.put z oq (hW.1 κ i hex).1)
  unfold oAt
  rw [if_neg (by omega), mV_wL (ht _), e1, arrV_store]

theorem r_aald (hx : p.tables.exec = Jvm.exec) (hb : c.code = cc) (hK : va_K (E.1, E.2.1) vwCl (tys4 E) s) (hW : Wd E base M ad H) {x : Int32} (hin : vp_in x 6) (hex : mE M 10 i = true) (hdg : decode cc pc = .ok (.aaload, 1))
    (kt : mF M 10 i x.toNatClampNeg = true → W p l e R s m args below meth c H locs cells slots Q (F0 m (pc + 1) ls (.ref (ad 2 x.toNatClampNeg) :: rest))) (kn : mF M 10 i x.toNatClampNeg = false → W p l e R s m args below meth c H locs cells slots Q (F0 m (pc + 1) ls (.null :: rest))) : W p l e R s m args below meth c H locs cells slots Q (F0 m pc ls (.int x :: .ref (ad 10 i) :: rest)) := by
  have hc := oAt_arr (hW.1 10 i hex).2 (by omega)
  have hlt : x.toNatClampNeg < kLen 10 := Nat.not_le.mp fun q => hin (Or.inr q)
  have hv : mV M ad 10 i x.toNatClampNeg = if mF M 10 i x.toNatClampNeg = true then .ref (ad 2 x.toNatClampNeg) else .null := mV2 2 rfl
  refine W.aald (v := mV M ad 10 i x.toNatClampNeg) (ty := .object RX2) hx hb hc ((hK.2 3 _ rfl).1 _ _) rfl (fun q => by cases q) (by show ¬ (x < 0 ∨ (arrV _ _ _).slots.size ≤ _); rw [arrV_size]; exact hin) (by show (arrV _ _ _).slots[_]? = _; rw [arrV_read _ _ hlt]) rfl rfl hdg ?_
  rw [hv]
  by_cases hf : mF M 10 i x.toNatClampNeg = true
  · rw [if_pos hf]; exact kt hf
  · rw [if_neg hf]; exact kn (by simpa using hf)
theorem r_aast (hx : p.tables.exec = Jvm.exec) (hb : c.code = cc) (hK : va_K (E.1, E.2.1) vwCl (tys4 E) s) (hW : Wd E base M ad H) (hS : va_S (fun q : Nat => base ≤ q) s.heap H locs) {x : Int32} {j : Nat} (hin : vp_in x 6) (hj : j = x.toNatClampNeg) (hex : mE M 10 i = true) (hex2 : mE M 2 j = true) (hdg : decode cc pc = .ok (.aastore, 1))
    (kk : ∀ (M1 : Mem) (H1 : Heap) (locs1 : List Loc), M1 = wF M 10 i x.toNatClampNeg true → Wd E base M1 ad H1 → va_S (fun q : Nat => base ≤ q) s.heap H1 locs1 → W p l e R s m args below meth c H1 locs1 cells slots Q (F0 m (pc + 1) ls rest)) : W p l e R s m args below meth c H locs cells slots Q (F0 m pc ls (.ref (ad 2 j) :: .int x :: .ref (ad 10 i) :: rest)) := by
  have hc := oAt_arr (hW.1 10 i hex).2 (by omega)
  have hlt : x.toNatClampNeg < kLen 10 := Nat.not_le.mp fun q => hin (Or.inr q)
  have h0 : ¬ x < 0 := fun q => hin (Or.inl q)
  have ho := (hW.1 2 j hex2).2
  unfold oAt at ho
  rw [if_pos (by decide)] at ho
  obtain ⟨cellV, g1, g2, g3, -⟩ := ho
  have hcls := (hK.1 2 _ rfl).2
  obtain ⟨kA', comp, k1, k2, k3, -⟩ := (hK.2 3 _ rfl).2
  have hcomp : comp = E.1 2 := Option.some.inj (k3.symm.trans hcls.1)
  subst hcomp
  obtain ⟨kC, hkC, -⟩ := hcls.2
  refine W.aast hx hb hc (fun q h => by cases h) (fun h => by cases h) k1 k2 rfl hkC ⟨h0, by show _ < (arrV _ _ _).slots.size; rw [arrV_size]; exact hlt⟩ g1 (fun q h => by rw [g3] at h; cases h) (by rw [g2]; exact hkC) (by rw [g2]; exact va_assign hcls) rfl rfl hdg fun H1 e1 z oq => ?_
  refine kk _ H1 _ rfl (Wd_wF hW hex (fun _ => by show mE M 2 _ = true; rw [← hj]; exact hex2) ?_ oq) (hS.put z oq (hW.1 10 i hex).1)
  unfold oAt
  rw [if_neg (by decide), mV_wFt (κ2 := 2) (i2 := x.toNatClampNeg) 2 rfl rfl, e1, arrV_store, hj]
theorem r_aastN (hx : p.tables.exec = Jvm.exec) (hb : c.code = cc) (hK : va_K (E.1, E.2.1) vwCl (tys4 E) s) (hW : Wd E base M ad H) (hS : va_S (fun q : Nat => base ≤ q) s.heap H locs) {x : Int32} (hin : vp_in x 6) (hex : mE M 10 i = true) (hdg : decode cc pc = .ok (.aastore, 1))
    (kk : ∀ (M1 : Mem) (H1 : Heap) (locs1 : List Loc), M1 = wF M 10 i x.toNatClampNeg false → Wd E base M1 ad H1 → va_S (fun q : Nat => base ≤ q) s.heap H1 locs1 → W p l e R s m args below meth c H1 locs1 cells slots Q (F0 m (pc + 1) ls rest)) : W p l e R s m args below meth c H locs cells slots Q (F0 m pc ls (.null :: .int x :: .ref (ad 10 i) :: rest)) := by
  have hc := oAt_arr (hW.1 10 i hex).2 (by omega)
  intro T hT X
  subst hT
  have hin' : ¬ (x < 0 ∨ (arrV (E.2.2 (kA 10)) (kLen 10) (mV M ad 10 i)).slots.size ≤ x.toNatClampNeg) := by rw [arrV_size]; exact hin
  obtain ⟨X', st⟩ := va_aastN0 X hx hc ((hK.2 3 _ rfl).1 _ _) (fun q => by cases q) hin' (g := F0 m pc ls (.null :: .int x :: .ref (ad 10 i) :: rest)) rfl rfl (by rw [hb]; exact hdg)
  have hlt : ad 10 i < T.heap.size := (Array.getElem?_eq_some_iff.mp hc).1
  obtain ⟨t, a1, b1⟩ := kk (wF M 10 i x.toNatClampNeg false) (T.setCell (ad 10 i) ((arrV (E.2.2 (kA 10)) (kLen 10) (mV M ad 10 i)).setSlot x.toNatClampNeg .null)).heap _ rfl (Wd_wF hW hex (fun h => by cases h) (by
    unfold oAt
    rw [if_neg (by decide), mV_wFf 2 rfl, heapAt_setCell_self _ hlt, arrV_store]) (fun q hq => heapAt_setCell_ne _ (Ne.symm hq))) (hS.put (by rw [size_setCell]) (fun q hq => heapAt_setCell_ne _ (Ne.symm hq)) (hW.1 10 i hex).1) _ rfl X'
  exact ⟨t, st t a1, b1⟩
/-! new cells -/
def upA (ad : AD) (κ i q : Nat) : AD := fun a b => if a = κ ∧ b = i then q else ad a b
theorem r_new {dv : Nat → Value} (hx : p.tables.exec = Jvm.exec) (hb : c.code = cc) (hts : ∀ w ∈ Ts, w.before args s = true) (hown : s.vm.findClass own = some m.cls) (hcl : (Cond.classLink own index C).before args s = true) (hinst : (Cond.instantiable C N).before args s = true) (hini : (Cond.initialized C).before args s = true)
    (hK : va_K (E.1, E.2.1) vwCl tys s) (hW : Wd E base M ad H) (hS : va_S (fun q : Nat => base ≤ q) s.heap H locs) (hbase : base ≤ s.heap.size) (hC : Cls κ C T N Ts) (ty : Nat → FieldType) (hty : ∀ k, k < N → parseFieldDescriptor (T k).2.2.1 = some (ty k)) (hdv : ∀ k, k < N → defaultValue (ty k) = (if kT κ k = 0 then .int 0 else if kT κ k = 1 then .long 0 else .null))
    (hcells : cells + 1 ≤ R.cells) (hslots : slots + N ≤ R.slots) (hex : mE M κ i = false) (hdg : decode cc pc = .ok (.new index, 3))
    (kk : ∀ (q : Nat) (M1 : Mem) (ad1 : AD) (H1 : Heap), M1 = wN M κ i → ad1 = upA ad κ i q → Wd E base M1 ad1 H1 → va_S (fun q : Nat => base ≤ q) s.heap H1 locs →
      W p l e R s m args below meth c H1 locs (cells + 1) (slots + N) Q (F0 m (pc + 3) ls (.ref (ad1 κ i) :: rest))) : W p l e R s m args below meth c H locs cells slots Q (F0 m pc ls rest) := by
  obtain ⟨h6, hc, hN, hin, -, -⟩ := hC
  have hKn := hK.1 κ _ hc
  refine W.newcK hx hb hown hcl hinst hini rfl hdg hcells hslots hKn.2.1 rfl fun H1 kC hkC e1 z1 o1 => ?_
  have hA : base ≤ H.size := Nat.le_trans hbase hS.1
  have K := kk H.size (wN M κ i) (upA ad κ i H.size) H1 rfl rfl (hW.new hex rfl hA o1 ?_) ⟨Nat.le_trans hS.1 (by omega), fun x h1 h2 => (o1 x (Nat.lt_of_lt_of_le h1 hS.1)).trans (hS.2.1 x h1 h2), hS.2.2⟩
  · rw [show upA ad κ i H.size κ i = H.size by simp [upA]] at K
    exact K
  · unfold oAt
    rw [if_pos h6]
    simp only [and_self, if_true]
    subst hN
    refine (u_born ty hts hin hKn hkC e1 hty).to fun k hk => ?_
    rw [hdv k hk]
    unfold mV
    have e3 : mF (wN M κ i) κ i k = false := by simp [mF, wN]
    have e4 : mI (wN M κ i) κ i k = 0 := by simp [mI, wN]
    have e5 : mL (wN M κ i) κ i k = 0 := by simp [mL, wN]
    rw [e3, e4, e5]
    generalize kT κ k = z
    rcases z with _ | _ | z <;> simp
theorem r_newa {n : Int32} {a : Nat} (hx : p.tables.exec = Jvm.exec) (hb : c.code = cc) (atype : ArrayType) (harr : (Cond.arrayClass (newarray.typeOf atype)).before args s = true) (hK : va_K (E.1, E.2.1) vwCl (tys4 E) s) (hW : Wd E base M ad H) (hS : va_S (fun q : Nat => base ≤ q) s.heap H locs) (hbase : base ≤ s.heap.size)
    (h6 : 6 ≤ κ) (ha : kA κ = a) (hty : (tys4 E)[a]? = some (E.2.2 a, newarray.typeOf atype)) (hnm : va_RA s (E.2.2 a) (newarray.typeOf atype) → s.vm.findClass ("[" ++ (newarray.typeOf atype).toString) = some (E.2.2 a)) (dv : Value) (hdv : defaultValue (newarray.typeOf atype) = dv) (ht : ∀ k, (kT κ k = 0 ∧ dv = .int 0) ∨ (kT κ k = 1 ∧ dv = .long 0)) (len : Nat) (hlen : kLen κ = len) (hn : ¬ n < 0) (hN : n.toNatClampNeg = len) (hbytes : len * componentBytes (newarray.typeOf atype) ≤ 536870912)
    (hcells : cells + 1 ≤ R.cells) (hslots : slots + len ≤ R.slots) (hex : mE M κ i = false) (hdg : decode cc pc = .ok (.newarray atype, 2))
    (kk : ∀ (q : Nat) (M1 : Mem) (ad1 : AD) (H1 : Heap), M1 = wN M κ i → ad1 = upA ad κ i q → Wd E base M1 ad1 H1 → va_S (fun q : Nat => base ≤ q) s.heap H1 locs →
      W p l e R s m args below meth c H1 locs (cells + 1) (slots + len) Q (F0 m (pc + 2) ls (.ref (ad1 κ i) :: rest))) : W p l e R s m args below meth c H locs cells slots Q (F0 m pc ls (.int n :: rest)) := by
  refine va_newaK hx hb harr rfl hdg rfl hn hN hbytes hcells hslots rfl fun H1 cA e1 z1 o1 hAr hNm => ?_
  have hA : base ≤ H.size := Nat.le_trans hbase hS.1
  have hcA : cA = E.2.2 a := Option.some.inj (hNm.symm.trans (hnm (hK.2 a _ hty).2))
  have K := kk H.size (wN M κ i) (upA ad κ i H.size) H1 rfl rfl (hW.new hex rfl hA o1 ?_) ⟨Nat.le_trans hS.1 (by omega), fun x h1 h2 => (o1 x (Nat.lt_of_lt_of_le h1 hS.1)).trans (hS.2.1 x h1 h2), hS.2.2⟩
  · rw [show upA ad κ i H.size κ i = H.size by simp [upA]] at K
    exact K
  · unfold oAt
    rw [if_neg (by omega), ha, hlen]
    simp only [and_self, if_true]
    rw [e1, hcA, hdv]
    congr 2
    funext k
    have e4 : mI (wN M κ i) κ i k = 0 := by simp [mI, wN]
    have e5 : mL (wN M κ i) κ i k = 0 := by simp [mL, wN]
    rcases ht k with ⟨h1, h2⟩ | ⟨h1, h2⟩
    · rw [mV0 h1, e4, h2]
    · rw [mV1 h1, e5, h2]
theorem r_newq {n : Int32} (hx : p.tables.exec = Jvm.exec) (hb : c.code = cc) (hown : s.vm.findClass own = some m.cls) (hclink : (Cond.classLink own index RX2).before args s = true) (hover : va_AO RX2 s) (hK : va_K (E.1, E.2.1) vwCl (tys4 E) s) (hW : Wd E base M ad H) (hS : va_S (fun q : Nat => base ≤ q) s.heap H locs) (hbase : base ≤ s.heap.size)
    (hn : ¬ n < 0) (hN : n.toNatClampNeg = 6) (hcells : cells + 1 ≤ R.cells) (hslots : slots + 6 ≤ R.slots) (hex : mE M 10 i = false) (hdg : decode cc pc = .ok (.anewarray index, 3))
    (kk : ∀ (q : Nat) (M1 : Mem) (ad1 : AD) (H1 : Heap), M1 = wN M 10 i → ad1 = upA ad 10 i q → Wd E base M1 ad1 H1 → va_S (fun q : Nat => base ≤ q) s.heap H1 locs →
      W p l e R s m args below meth c H1 locs (cells + 1) (slots + 6) Q (F0 m (pc + 3) ls (.ref (ad1 10 i) :: rest))) : W p l e R s m args below meth c H locs cells slots Q (F0 m pc ls (.int n :: rest)) := by
  refine W.anew hx hb hown hclink (va_AO.use hover) rfl hdg rfl hn (by rw [hN]; decide) hcells (by rw [hN]; exact hslots) fun cA kA' comp f1 f2 f3 f4 => ?_
  rw [hN]
  generalize hH1 : H.push ({ cls := cA, slots := Array.replicate 6 .null, vm := .none } : Cell) = H1
  have z1 : H1.size = H.size + 1 := by rw [← hH1, Array.size_push]
  have e1 : H1[H.size]? = some (arrV cA 6 (fun _ => .null)) := by rw [← hH1, Array.getElem?_push_size, ← arrV_new]
  have o1 : ∀ q : Nat, q < H.size → H1[q]? = H[q]? := fun q hq => by rw [← hH1, Array.getElem?_push, if_neg (Nat.ne_of_lt hq)]
  have hA : base ≤ H.size := Nat.le_trans hbase hS.1
  obtain ⟨_, _, _, _, _, k4⟩ := (hK.2 3 _ rfl).2
  have hcA : cA = E.2.2 3 := Option.some.inj (f1.symm.trans k4)
  have K := kk H.size (wN M 10 i) (upA ad 10 i H.size) H1 rfl rfl (hW.new hex rfl hA o1 ?_) ⟨Nat.le_trans hS.1 (by omega), fun x h1 h2 => (o1 x (Nat.lt_of_lt_of_le h1 hS.1)).trans (hS.2.1 x h1 h2), hS.2.2⟩
  · rw [show upA ad 10 i H.size 10 i = H.size by simp [upA]] at K
    exact K
  · unfold oAt
    rw [if_neg (by decide)]
    simp only [and_self, if_true]
    rw [e1, hcA]
    show some (arrV (E.2.2 3) 6 _) = some (arrV (E.2.2 3) 6 _)
    congr 2
    funext k
    rw [mV2 2 rfl, show mF (wN M 10 i) 10 i k = false by simp [mF, wN]]
    simp
theorem r_acmp_eq {i1 i2 : Nat} (hx : p.tables.exec = Jvm.exec) (hb : c.code = cc) (hW : Wd E base M ad H) {off : Int} {tgt : Nat} (h1 : mE M κ i1 = true) (h2 : mE M κ i2 = true) (hdg : decode cc pc = .ok (.if_acmp .eq off, 3)) (ht : (pc : Int) + off = (tgt : Int))
    (kt : i1 = i2 → W p l e R s m args below meth c H locs cells slots Q (F0 m tgt ls rest)) (kf : ¬ i1 = i2 → W p l e R s m args below meth c H locs cells slots Q (F0 m (pc + 3) ls rest)) : W p l e R s m args below meth c H locs cells slots Q (F0 m pc ls (.ref (ad κ i2) :: .ref (ad κ i1) :: rest)) :=
  lv_acmp_eq (rx := some (ad κ i1)) (ry := some (ad κ i2)) hx hb hdg ht (fun q => kt (hW.2.1 κ i1 κ i2 h1 h2 (Option.some.inj q)).2) (fun q => kf fun z => q (by rw [z]))
theorem r_acmp_ne {i1 i2 : Nat} (hx : p.tables.exec = Jvm.exec) (hb : c.code = cc) (hW : Wd E base M ad H) {off : Int} {tgt : Nat} (h1 : mE M κ i1 = true) (h2 : mE M κ i2 = true) (hdg : decode cc pc = .ok (.if_acmp .ne off, 3)) (ht : (pc : Int) + off = (tgt : Int))
    (kt : ¬ i1 = i2 → W p l e R s m args below meth c H locs cells slots Q (F0 m tgt ls rest)) (kf : i1 = i2 → W p l e R s m args below meth c H locs cells slots Q (F0 m (pc + 3) ls rest)) : W p l e R s m args below meth c H locs cells slots Q (F0 m pc ls (.ref (ad κ i2) :: .ref (ad κ i1) :: rest)) :=
  lv_acmp_ne (rx := some (ad κ i1)) (ry := some (ad κ i2)) hx hb hdg ht (fun q => kt fun z => q (by rw [z])) (fun q => kf (hW.2.1 κ i1 κ i2 h1 h2 (Option.some.inj q)).2)
end ROWS2
end
section
/-! the words that every method gets; what else is known of the tables -/
def isMv (w : Cond) : Bool := match w with
  | .methodLinkNest .. => true | .castable .. => true | .fieldLinkNest .. => true | .declares .. => true | _ => false
def WSG : List Cond := lw_tbl.filter goodWord
def NG : List Cond := lw_tbl.filter isMv
def ST : List (String × Nat × String) := [(RX4, 37, "all peers have joined"), (RX4, 139, "no such peer"), (RX4, 142, "no such piece"), (RX4, 73, "no such priority"), (RX4, 90, "no such number of rounds"), (RX4, 92, "too many rounds in all")]
def exN (k : Nat) : String := match k with
  | 0 => "java/lang/IllegalStateException" | 1 => "java/lang/IndexOutOfBoundsException" | _ => "java/lang/IllegalArgumentException"
def NC : List (Nat × Nat) := [(0, 1), (0, 2), (1, 0), (1, 2), (2, 0), (2, 1)]
theorem Nw_moved {w : Cond} (hm : isMv w = true) {s U : State} (hW : s.WarmedH U.vm) (h : va_Nw w s) : va_Nw w U := by
  cases w <;> first | (cases hm; done) | exact va_Nw.warmM hW h | exact va_Nw.warmC hW h | exact va_Nw.warmF hW h | exact va_Nw.warmD hW h
theorem isMv_on {w : Cond} (hm : isMv w = true) : w.onTables = true := by
  cases w <;> first | (cases hm; done) | rfl
def TB (E : GE) (base : Nat) (U : State) (H : Heap) : Prop :=
  va_K (E.1, E.2.1) vwCl (tys4 E) U ∧ (∀ w ∈ NG, va_Nw w U) ∧ (∀ x ∈ ST, ∃ a, vk_R x.1 x.2.1 x.2.2 a U) ∧ vx_Zq Bundle.tN "UNASSIGNED_STACK" Bundle.steD (fun q => base ≤ q) U H ∧ vx_Zq Bundle.tN "SUPPRESSED_SENTINEL" Bundle.listD (fun q => base ≤ q) U H ∧ va_AO RX2 U ∧ (∀ x ∈ NC, va_Nc (exN x.1) (exN x.2) U) ∧ base ≤ H.size
theorem TB.warm {E : GE} {base : Nat} {s U : State} {H : Heap} (hW : s.WarmedH U.vm) (h : TB E base s H) : TB E base U H := by
  obtain ⟨h1, h2, h3, h4, h5, h6, h7, h8⟩ := h
  refine ⟨va_K.moved hW.alike h1, fun w hw => Nw_moved (List.mem_filter.mp hw).2 hW (h2 w hw), fun x hx => ?_, vx_Zq.moved hW.alike h4, vx_Zq.moved hW.alike h5, va_AO.moved hW.alike h6, fun x hx => va_Nc.moved hW.alike (h7 x hx), h8⟩
  obtain ⟨a, ha⟩ := h3 x hx
  exact ⟨a, vk_R.warm hW ha⟩
theorem TB.same {E : GE} {base : Nat} {u U : State} {H : Heap} (hvm : u.vm = U.vm) (h : TB E base u H) : TB E base U H := by
  obtain ⟨h1, h2, h3, h4, h5, h6, h7, h8⟩ := h
  have hA : u.vm.Alike U.vm := by rw [hvm]; exact Vm.Alike.refl U.vm
  refine ⟨va_K.moved hA h1, fun w hw => (h2 w hw).same (isMv_on (List.mem_filter.mp hw).2) hvm, fun x hx => ?_, vx_Zq.moved hA h4, vx_Zq.moved hA h5, va_AO.moved hA h6, fun x hx => va_Nc.moved hA (h7 x hx), h8⟩
  obtain ⟨a, ha⟩ := h3 x hx
  exact ⟨a, vk_R.same hvm.symm ha⟩
theorem TB.heap {E : GE} {base : Nat} {s : State} {H0 H : Heap} {locs : List Loc} (h : TB E base s H0) (hS : va_S (fun q : Nat => base ≤ q) H0 H locs) : TB E base s H := by
  obtain ⟨h1, h2, h3, h4, h5, h6, h7, h8⟩ := h
  exact ⟨h1, h2, h3, vx_Zq.kept h4 (fun a h1 h2 => hS.2.1 a h1 h2), vx_Zq.kept h5 (fun a h1 h2 => hS.2.1 a h1 h2), h6, h7, Nat.le_trans h8 hS.1⟩
/-! contracts -/
abbrev A0 (base : Nat) : Nat → Prop := fun q => base ≤ q
def Pst (E : GE) (base : Nat) (M : Mem) (ad : AD) (U : State) : Prop := TB E base U U.heap ∧ Wd E base M ad U.heap
def XCo (E : GE) (base : Nat) (XP : Nat → Mem → AD → Prop) : String → State → State → Prop := vx_X (fun u : Nat × Mem × AD => XP u.1 u.2.1 u.2.2) (fun En u t => En = exN u.1 ∧ Wd E base u.2.1 u.2.2 t.heap) (A0 base)
def QcI (E : GE) (base : Nat) (P : Int32 → Mem → AD → Prop) : Array Value → State → Outcome → State → Prop := va_Qi (fun (r : Int32) (u : Mem × AD) => P r u.1 u.2) (fun u t => Wd E base u.1 u.2 t.heap) (A0 base)
def QcL (E : GE) (base : Nat) (P : Int64 → Mem → AD → Prop) : Array Value → State → Outcome → State → Prop := va_Ql (fun (r : Int64) (u : Mem × AD) => P r u.1 u.2) (fun u t => Wd E base u.1 u.2 t.heap) (A0 base)
def QcV (E : GE) (base : Nat) (P : Mem → AD → Prop) : Array Value → State → Outcome → State → Prop := va_Qv (fun (u : Mem × AD) => P u.1 u.2) (fun u t => Wd E base u.1 u.2 t.heap) (A0 base)
/-- an answer that is a peer, or null -/
def QcQ (E : GE) (base : Nat) (P : Option Nat → Mem → AD → Prop) : Array Value → State → Outcome → State → Prop := va_Qq (fun (r : Option Nat) (u : Mem × AD) => ∃ ro : Option Nat, r = ro.map (u.2 2) ∧ P ro u.1 u.2) (fun u t => Wd E base u.1 u.2 t.heap) (A0 base)
abbrev Con (l : Launch) (y : MethodName) (bytes : ByteArray) (maxL : Nat) (ret : Option FieldType) (rm : Room) (mc ms : Nat) (E : GE) (base : Nat) (av : List Value) (M : Mem) (ad : AD) (Qc : Array Value → State → Outcome → State → Prop) (XP : Nat → Mem → AD → Prop) : Prop :=
  vx_Met l y (.code y bytes maxL ret :: WSG) rm (va_Pc av (Pst E base M ad)) Qc (XCo E base XP) mc ms (A0 base)
abbrev ConW (l : Launch) (y : MethodName) (bytes : ByteArray) (maxL : Nat) (ret : Option FieldType) (hh : List (Nat × Nat × Nat × Nat)) (rm : Room) (mc ms : Nat) (E : GE) (base : Nat) (av : List Value) (M : Mem) (ad : AD) (Qc : Array Value → State → Outcome → State → Prop) (XP : Nat → Mem → AD → Prop) : Prop :=
  vx_Met l y (.codeWith y bytes maxL ret hh :: WSG) rm (va_Pc av (Pst E base M ad)) Qc (XCo E base XP) mc ms (A0 base)
/-- what a method's body knows from its entry on -/
def Ctx (p : Program) (l : Launch) (s : State) (m : MethodId) (meth : Method) (c : Code) (args : Array Value) (y : MethodName) (bytes : ByteArray) (maxL : Nat) (ret : Option FieldType) (E : GE) (base : Nat) : Prop :=
  (p.tables.exec = Jvm.exec ∧ c.code = bytes ∧ c.maxLocals = maxL ∧ s.vm.findClass y.cls = some m.cls ∧ ∀ w ∈ WSG, w.before args s = true) ∧ meth.sig.returnType = ret ∧ meth.locks = false ∧ meth.name = y.name ∧ TB E base s s.heap
theorem con_start {l : Launch} {y : MethodName} {bytes : ByteArray} {maxL : Nat} {ret : Option FieldType} {rm : Room} {mc ms : Nat} {E : GE} {base : Nat} {av : List Value} {M : Mem} {ad : AD} {Qc : Array Value → State → Outcome → State → Prop} {XP : Nat → Mem → AD → Prop}
    (hy : plainName y.cls = true) (hlen : (lg_sl av).length ≤ maxL)
    (body : ∀ (p : Program) (e : Env) (s : State) (m : MethodId) (args : Array Value) (below : List Frame) (meth : Method) (c : Code) (ls : Array Slot) (QQ : State → Prop), vx_MQ below Qc (XCo E base XP) args s mc ms (A0 base) = QQ → Ctx p l s m meth c args y bytes maxL ret E base → (∀ x ∈ c.exceptionTable.toList, False) → Wd E base M ad s.heap → lv_has ls maxL (lv_args 0 av) →
      W p l e rm s m args below meth c s.heap [] 0 0 QQ (F0 m 0 ls [])) : Con l y bytes maxL ret rm mc ms E base av M ad Qc XP := by
  refine vx_ofW (cc := bytes) (maxL := maxL) (ret := ret) hy rfl ?_
  intro p e s m args below meth c s₁ B hml hnx hv
  obtain ⟨rfl, hT, hW⟩ := hv
  have hts := atoms_spec (ws := .code y bytes maxL ret :: WSG) B.pre
  have hl := lv_entry av (n := maxL) hlen
  rw [lg_entry_eq]
  exact body p e s m _ below meth c _ _ rfl ⟨⟨B.exec, B.bytes, hml, findClass_of_methodNamed B.named, fun w h => hts w (List.mem_cons_of_mem _ h)⟩, B.returns, B.notSynchronized, (name_of_methodNamed B.named B.method).1, hT⟩ hnx hW hl
theorem conW_start {l : Launch} {y : MethodName} {bytes : ByteArray} {maxL : Nat} {ret : Option FieldType} {hh : List (Nat × Nat × Nat × Nat)} {rm : Room} {mc ms : Nat} {E : GE} {base : Nat} {av : List Value} {M : Mem} {ad : AD} {Qc : Array Value → State → Outcome → State → Prop} {XP : Nat → Mem → AD → Prop}
    (hy : plainName y.cls = true) (hlen : (lg_sl av).length ≤ maxL)
    (body : ∀ (p : Program) (e : Env) (s : State) (m : MethodId) (args : Array Value) (below : List Frame) (meth : Method) (c : Code) (ls : Array Slot) (QQ : State → Prop), vx_MQ below Qc (XCo E base XP) args s mc ms (A0 base) = QQ → Ctx p l s m meth c args y bytes maxL ret E base → c.exceptionTable.toList = tableOf hh → Wd E base M ad s.heap → lv_has ls maxL (lv_args 0 av) →
      W p l e rm s m args below meth c s.heap [] 0 0 QQ (F0 m 0 ls [])) : ConW l y bytes maxL ret hh rm mc ms E base av M ad Qc XP := by
  refine vx_ofWH (cc := bytes) (maxL := maxL) (ret := ret) (hh := hh) hy rfl ?_
  intro p e s m args below meth c s₁ B hml hv
  obtain ⟨rfl, hT, hW⟩ := hv
  have hts := atoms_spec (ws := .codeWith y bytes maxL ret hh :: WSG) B.pre
  have htab := vx_table (x := y) B (hts _ List.mem_cons_self)
  have hl := lv_entry av (n := maxL) hlen
  rw [lg_entry_eq]
  exact body p e s m _ below meth c _ _ rfl ⟨⟨B.exec, B.bytes, hml, findClass_of_methodNamed B.named, fun w h => hts w (List.mem_cons_of_mem _ h)⟩, B.returns, B.notSynchronized, (name_of_methodNamed B.named B.method).1, hT⟩ htab hW hl
theorem Pst_blind {E : GE} {base : Nat} {av : List Value} {M : Mem} {ad : AD} : FrameBlind (va_Pc av (Pst E base M ad)) := fun a U g mk h => ⟨h.1, TB.same (u := U) rfl h.2.1, h.2.2⟩
section CALLS
variable {p : Program} {l : Launch} {e : Env} {R : Room} {s : State} {m : MethodId} {args : Array Value} {below : List Frame} {meth : Method} {c : Code} {H : Heap} {locs : List Loc} {cells slots : Nat} {Q : State → Prop}
variable {cc bytes : ByteArray} {pc : Nat} {ls : Array Slot} {rest st0 : List Value} {E : GE} {base : Nat} {M : Mem} {ad : AD} {κ i nL maxL mc ms n index : Nat} {own host : String} {y : MethodName} {ret : Option FieldType} {rm : Room} {As : List Value} {Qc : Array Value → State → Outcome → State → Prop} {XP : Nat → Mem → AD → Prop}
theorem Pst_call (hT : TB E base s s.heap) (hS : va_S (fun q : Nat => base ≤ q) s.heap H locs) (hW : Wd E base M ad H) {U : State} (hU : U.heap = H) (hWm : s.WarmedH U.vm) : Pst E base M ad U := by
  subst hU
  exact ⟨(hT.heap hS).warm hWm, hW⟩
theorem pay_code {w0 : Cond} (h0 : goodWord w0 = true) (hin : w0 ∈ WSG) (hts : ∀ w ∈ WSG, w.before args s = true) : ∀ w ∈ w0 :: WSG, ∀ (a' : Array Value) (U : State), s.WarmedH U.vm → w.before a' U = true := fun w hw a' U hWm => by
  rcases List.mem_cons.mp hw with h | h
  · subst h; exact word_at hWm (good_of_word h0) (hts _ hin)
  · exact word_at hWm (good_of_word (List.mem_filter.mp h).2) (hts _ h)
/-- what a call asks of the tables: its link apart -/
def CallY (y : MethodName) (bytes : ByteArray) (maxL : Nat) (ret : Option FieldType) (n : Nat) : Prop := Cond.code y bytes maxL ret ∈ WSG ∧ Cond.initialized y.cls ∈ WSG ∧ y.cls ≠ "java/lang/invoke/MethodHandle" ∧ y.cls ≠ "java/lang/invoke/VarHandle" ∧ (parseMethodDescriptor y.desc).map (fun d => d.parameters.length) = some n
def CallYW (y : MethodName) (bytes : ByteArray) (maxL : Nat) (ret : Option FieldType) (hh : List (Nat × Nat × Nat × Nat)) (n : Nat) : Prop := Cond.codeWith y bytes maxL ret hh ∈ WSG ∧ Cond.initialized y.cls ∈ WSG ∧ y.cls ≠ "java/lang/invoke/MethodHandle" ∧ y.cls ≠ "java/lang/invoke/VarHandle" ∧ (parseMethodDescriptor y.desc).map (fun d => d.parameters.length) = some n
theorem arity {n : Nat} (h : (parseMethodDescriptor y.desc).map (fun d => d.parameters.length) = some n) : ∀ sig, parseMethodDescriptor y.desc = some sig → n = sig.parameters.length := fun sig hs => by
  rw [hs] at h
  exact (Option.some.inj h).symm
theorem callB0 (hts : ∀ w ∈ WSG, w.before args s = true) (hY : CallY y bytes maxL ret n) (hl : Cond.methodLink own index y ∈ WSG) (hrc : rm.cells = mc) (hrs : rm.slots = ms) (hR : rm.frames + 1 ≤ R.frames ∧ 8 + (maxL + 11) + rm.locals ≤ R.locals) : CallB R s args own index y bytes maxL ret (.code y bytes maxL ret :: WSG) rm mc ms n := by
  obtain ⟨h1, h2, h3, h4, h5⟩ := hY
  exact ⟨hrc, hrs, hR.1, hR.2, pay_code rfl h1 hts, List.mem_cons_self, hts _ h1, hts _ h2, ⟨h3, h4⟩, arity h5, hts _ hl⟩
theorem callN0 (hts : ∀ w ∈ WSG, w.before args s = true) (hT : TB E base s s.heap) (hY : CallY y bytes maxL ret n) (hl : Cond.methodLinkNest own index y host ∈ NG) (hrc : rm.cells = mc) (hrs : rm.slots = ms) (hR : rm.frames + 1 ≤ R.frames ∧ 8 + (maxL + 11) + rm.locals ≤ R.locals) : va_CN R s args own index y host bytes maxL ret (.code y bytes maxL ret :: WSG) rm mc ms n := by
  obtain ⟨h1, h2, h3, h4, h5⟩ := hY
  exact ⟨⟨hrc, hrs, hR.1, hR.2, pay_code rfl h1 hts, List.mem_cons_self⟩, hts _ h1, hts _ h2, ⟨h3, h4⟩, arity h5, va_Nw.use rfl (hT.2.1 _ hl)⟩
theorem mRecv (hK : va_K (E.1, E.2.1) vwCl (tys4 E) s) (hW : Wd E base M ad H) (hex : mE M κ i = true) (h6 : κ < 6) {q : vw_C} (hc : vwCl[κ]? = some q) : ∃ cell : Cell, H[ad κ i]? = some cell ∧ cell.vm.isStatics = false ∧ s.vm.findClass q.1 = some cell.cls := by
  have ho := (hW.1 κ i hex).2
  unfold oAt at ho
  rw [if_pos h6] at ho
  obtain ⟨cell, g1, g2, g3, -⟩ := ho
  exact ⟨cell, g1, by rw [g3]; rfl, by rw [g2]; exact (hK.1 κ q hc).2.1⟩
abbrev Run (p : Program) (l : Launch) (e : Env) (R : Room) (s : State) (m : MethodId) (args : Array Value) (below : List Frame) (meth : Method) (c : Code) (H : Heap) (locs : List Loc) (cells slots mc ms : Nat) (pc : Nat) (ls : Array Slot) (st0 rest : List Value) (Qa : State → Outcome → State → Prop) (E : GE) (base : Nat) (XP : Nat → Mem → AD → Prop) : Prop :=
  vx_Run p l e R s m args below meth c H locs cells slots mc ms (F0 m pc ls st0) rest Qa (XCo E base XP) (A0 base)
theorem rn_V (CT : p.tables.exec = Jvm.exec ∧ c.code = cc ∧ c.maxLocals = nL ∧ s.vm.findClass own = some m.cls ∧ ∀ w ∈ WSG, w.before args s = true) (hT : TB E base s s.heap) (hW : Wd E base M ad H) (hS : va_S (fun q : Nat => base ≤ q) s.heap H locs) {nlv : List (Nat × Value)} (hl : lv_has ls nL nlv) (hC : Con l y bytes maxL ret rm mc ms E base (.ref (ad κ i) :: As) M ad Qc XP) (hY : CallY y bytes maxL ret n) (hlk : Cond.methodLink own index y ∈ WSG) (hin : Cond.instanceMethod y ∈ WSG) (hse : Cond.selects y.cls y y ∈ WSG) (hex : mE M κ i = true) (h6 : κ < 6) {q : vw_C} (hcl : vwCl[κ]? = some q) (hq : q.1 = y.cls)
    (hrc : rm.cells = mc) (hrs : rm.slots = ms) (hR : rm.frames + 1 ≤ R.frames ∧ 8 + (maxL + 11) + rm.locals ≤ R.locals) (hn : As.length = n) (hst : st0 = As.reverse ++ .ref (ad κ i) :: rest) (hr8 : (rest.map fun v => v.category).sum ≤ 8) (hdg : decode cc pc = .ok (.invokevirtual index, 3)) (hf : cells + mc ≤ R.cells ∧ slots + ms ≤ R.slots) :
    Run p l e R s m args below meth c H locs cells slots mc ms pc ls st0 rest (Qc (Value.ref (ad κ i) :: As).toArray) E base XP :=
  vx_runV (C := y.cls) (cc := cc) (nL := nL) CT hC ⟨callB0 CT.2.2.2.2 hY hlk hrc hrs hR, CT.2.2.2.2 _ hin, CT.2.2.2.2 _ hse⟩ ⟨Pst_blind, hq ▸ mRecv hT.1 hW hex h6 hcl, fun U hU hWm => ⟨rfl, Pst_call hT hS hW hU hWm⟩⟩ rfl hn hl.1 hst (lv_room hr8) hdg hf
theorem rn_S (CT : p.tables.exec = Jvm.exec ∧ c.code = cc ∧ c.maxLocals = nL ∧ s.vm.findClass own = some m.cls ∧ ∀ w ∈ WSG, w.before args s = true) (hT : TB E base s s.heap) (hW : Wd E base M ad H) (hS : va_S (fun q : Nat => base ≤ q) s.heap H locs) {nlv : List (Nat × Value)} (hl : lv_has ls nL nlv) (hC : Con l y bytes maxL ret rm mc ms E base As M ad Qc XP) (hY : CallY y bytes maxL ret n) (hlk : Cond.methodLink own index y ∈ WSG) (hss : Cond.static y ∈ WSG)
    (hrc : rm.cells = mc) (hrs : rm.slots = ms) (hR : rm.frames + 1 ≤ R.frames ∧ 8 + (maxL + 11) + rm.locals ≤ R.locals) (hn : As.length = n) (hst : st0 = As.reverse ++ rest) (hr8 : (rest.map fun v => v.category).sum ≤ 8) (hdg : decode cc pc = .ok (.invokestatic index, 3)) (hf : cells + mc ≤ R.cells ∧ slots + ms ≤ R.slots) :
    Run p l e R s m args below meth c H locs cells slots mc ms pc ls st0 rest (Qc As.toArray) E base XP :=
  vx_runS (cc := cc) (nL := nL) CT hC ⟨callB0 CT.2.2.2.2 hY hlk hrc hrs hR, CT.2.2.2.2 _ hss⟩ ⟨Pst_blind, fun U hU hWm => ⟨rfl, Pst_call hT hS hW hU hWm⟩⟩ rfl hn hl.1 hst (lv_room hr8) hdg hf
theorem rn_I (CT : p.tables.exec = Jvm.exec ∧ c.code = cc ∧ c.maxLocals = nL ∧ s.vm.findClass own = some m.cls ∧ ∀ w ∈ WSG, w.before args s = true) (hT : TB E base s s.heap) (hW : Wd E base M ad H) (hS : va_S (fun q : Nat => base ≤ q) s.heap H locs) {nlv : List (Nat × Value)} (hl : lv_has ls nL nlv) (hC : Con l y bytes maxL none rm mc ms E base (.ref (ad κ i) :: As) M ad Qc XP) (hY : CallY y bytes maxL none n) (hy1 : y.name = "<init>") (hlk : Cond.methodLink own index y ∈ WSG) (hin : Cond.instanceMethod y ∈ WSG)
    (hrc : rm.cells = mc) (hrs : rm.slots = ms) (hR : rm.frames + 1 ≤ R.frames ∧ 8 + (maxL + 11) + rm.locals ≤ R.locals) (hn : As.length = n) (hst : st0 = As.reverse ++ .ref (ad κ i) :: rest) (hr8 : (rest.map fun v => v.category).sum ≤ 8) (hdg : decode cc pc = .ok (.invokespecial index, 3)) (hf : cells + mc ≤ R.cells ∧ slots + ms ≤ R.slots) :
    Run p l e R s m args below meth c H locs cells slots mc ms pc ls st0 rest (Qc (Value.ref (ad κ i) :: As).toArray) E base XP :=
  vx_runI (cc := cc) (nL := nL) CT hC ⟨callB0 CT.2.2.2.2 hY hlk hrc hrs hR, hy1, CT.2.2.2.2 _ hin⟩ ⟨Pst_blind, fun U hU hWm => ⟨rfl, Pst_call hT hS hW hU hWm⟩⟩ rfl hn hl.1 hst (lv_room hr8) hdg hf
theorem rn_IN (CT : p.tables.exec = Jvm.exec ∧ c.code = cc ∧ c.maxLocals = nL ∧ s.vm.findClass own = some m.cls ∧ ∀ w ∈ WSG, w.before args s = true) (hT : TB E base s s.heap) (hW : Wd E base M ad H) (hS : va_S (fun q : Nat => base ≤ q) s.heap H locs) {nlv : List (Nat × Value)} (hl : lv_has ls nL nlv) (hC : Con l y bytes maxL none rm mc ms E base (.ref (ad κ i) :: As) M ad Qc XP) (hY : CallY y bytes maxL none n) (hlk : Cond.methodLinkNest own index y host ∈ NG) (hy1 : y.name = "<init>") (hin : Cond.instanceMethod y ∈ WSG)
    (hrc : rm.cells = mc) (hrs : rm.slots = ms) (hR : rm.frames + 1 ≤ R.frames ∧ 8 + (maxL + 11) + rm.locals ≤ R.locals) (hn : As.length = n) (hst : st0 = As.reverse ++ .ref (ad κ i) :: rest) (hr8 : (rest.map fun v => v.category).sum ≤ 8) (hdg : decode cc pc = .ok (.invokespecial index, 3)) (hf : cells + mc ≤ R.cells ∧ slots + ms ≤ R.slots) :
    Run p l e R s m args below meth c H locs cells slots mc ms pc ls st0 rest (Qc (Value.ref (ad κ i) :: As).toArray) E base XP :=
  vx_runIN (cc := cc) (nL := nL) CT hC ⟨callN0 CT.2.2.2.2 hT hY hlk hrc hrs hR, hy1, CT.2.2.2.2 _ hin⟩ ⟨Pst_blind, fun U hU hWm => ⟨rfl, Pst_call hT hS hW hU hWm⟩⟩ rfl hn hl.1 hst (lv_room hr8) hdg hf
theorem rn_SN (CT : p.tables.exec = Jvm.exec ∧ c.code = cc ∧ c.maxLocals = nL ∧ s.vm.findClass own = some m.cls ∧ ∀ w ∈ WSG, w.before args s = true) (hT : TB E base s s.heap) (hW : Wd E base M ad H) (hS : va_S (fun q : Nat => base ≤ q) s.heap H locs) {nlv : List (Nat × Value)} (hl : lv_has ls nL nlv) (hC : Con l y bytes maxL ret rm mc ms E base As M ad Qc XP) (hY : CallY y bytes maxL ret n) (hlk : Cond.methodLinkNest own index y host ∈ NG) (hss : Cond.static y ∈ WSG)
    (hrc : rm.cells = mc) (hrs : rm.slots = ms) (hR : rm.frames + 1 ≤ R.frames ∧ 8 + (maxL + 11) + rm.locals ≤ R.locals) (hn : As.length = n) (hst : st0 = As.reverse ++ rest) (hr8 : (rest.map fun v => v.category).sum ≤ 8) (hdg : decode cc pc = .ok (.invokestatic index, 3)) (hf : cells + mc ≤ R.cells ∧ slots + ms ≤ R.slots) :
    Run p l e R s m args below meth c H locs cells slots mc ms pc ls st0 rest (Qc As.toArray) E base XP :=
  vx_runSN (cc := cc) (nL := nL) CT hC ⟨callN0 CT.2.2.2.2 hT hY hlk hrc hrs hR, CT.2.2.2.2 _ hss, trivial⟩ ⟨Pst_blind, fun U hU hWm => ⟨rfl, Pst_call hT hS hW hU hWm⟩⟩ rfl hn hl.1 hst (lv_room hr8) hdg hf
/-- a static method with a table of its own -/
theorem rn_SX {hh : List (Nat × Nat × Nat × Nat)} (CT : p.tables.exec = Jvm.exec ∧ c.code = cc ∧ c.maxLocals = nL ∧ s.vm.findClass own = some m.cls ∧ ∀ w ∈ WSG, w.before args s = true) (hT : TB E base s s.heap) (hW : Wd E base M ad H) (hS : va_S (fun q : Nat => base ≤ q) s.heap H locs) {nlv : List (Nat × Value)} (hl : lv_has ls nL nlv) (hC : ConW l y bytes maxL ret hh rm mc ms E base As M ad Qc XP) (hY : CallYW y bytes maxL ret hh n) (hlk : Cond.methodLink own index y ∈ WSG) (hss : Cond.static y ∈ WSG)
    (hrc : rm.cells = mc) (hrs : rm.slots = ms) (hR : rm.frames + 1 ≤ R.frames ∧ 8 + (maxL + 11) + rm.locals ≤ R.locals) (hn : As.length = n) (hst : st0 = As.reverse ++ rest) (hr8 : (rest.map fun v => v.category).sum ≤ 8) (hdg : decode cc pc = .ok (.invokestatic index, 3)) (hf : cells + mc ≤ R.cells ∧ slots + ms ≤ R.slots) :
    Run p l e R s m args below meth c H locs cells slots mc ms pc ls st0 rest (Qc As.toArray) E base XP := by
  obtain ⟨h1, h2, h3, h4, h5⟩ := hY
  have hts := CT.2.2.2.2
  exact vx_runSX (cc := cc) (nL := nL) CT hC ⟨⟨hrc, hrs, hR.1, hR.2, pay_code rfl h1 hts, List.mem_cons_self⟩, hts _ h1, hts _ h2, ⟨h3, h4⟩, arity h5, hts _ hlk, hts _ hss⟩ ⟨Pst_blind, fun U hU hWm => ⟨rfl, Pst_call hT hS hW hU hWm⟩⟩ rfl hn hl.1 hst (lv_room hr8) hdg hf
end CALLS
end
section
/-! behind a call; a method's ends -/
def EXN : List String := ["java/lang/RuntimeException", "java/lang/Exception"]
def noX : Nat → Mem → AD → Prop := fun _ _ _ => False
section ENDS
variable {p : Program} {l : Launch} {e : Env} {R : Room} {s : State} {m : MethodId} {args : Array Value} {below : List Frame} {meth : Method} {c : Code} {H : Heap} {locs : List Loc} {cells slots : Nat} {Q : State → Prop}
variable {cc bytes : ByteArray} {pc : Nat} {ls : Array Slot} {rest st0 : List Value} {E : GE} {base : Nat} {M : Mem} {ad : AD} {mc ms : Nat} {Qc : Array Value → State → Outcome → State → Prop} {XP : Nat → Mem → AD → Prop} {XC : String → State → State → Prop} {a : Array Value}
abbrev KX (p : Program) (l : Launch) (e : Env) (R : Room) (s : State) (m : MethodId) (args : Array Value) (below : List Frame) (meth : Method) (c : Code) (cells slots : Nat) (Q : State → Prop) (g : JFrame) (E : GE) (base : Nat) (XP : Nat → Mem → AD → Prop) : Prop :=
  ∀ (k : Nat) (M1 : Mem) (ad1 : AD) (q9 : Addr) (ce : Cell) (H1 : Heap) (locs1 : List Loc), XP k M1 ad1 → Wd E base M1 ad1 H1 → va_S (fun q : Nat => base ≤ q) s.heap H1 locs1 → H1[q9]? = some ce → ce.vm = .none → s.vm.findClass (exN k) = some ce.cls → vx_W p l e R s m args below meth c H1 locs1 cells slots Q g q9
theorem kx_no {g : JFrame} : KX p l e R s m args below meth c cells slots Q g E base noX := fun _ _ _ _ _ _ _ h => False.elim h
theorem k_I {P : Int32 → Mem → AD → Prop} (hr : Run p l e R s m args below meth c H locs cells slots mc ms pc ls st0 rest (QcI E base P a) E base XP) (hS : va_S (fun q : Nat => base ≤ q) s.heap H locs)
    (kx : KX p l e R s m args below meth c (cells + mc) (slots + ms) Q (F0 m pc ls rest) E base XP)
    (kk : ∀ (r : Int32) (M1 : Mem) (ad1 : AD) (H1 : Heap) (locs1 : List Loc), P r M1 ad1 → Wd E base M1 ad1 H1 → va_S (fun q : Nat => base ≤ q) s.heap H1 locs1 → W p l e R s m args below meth c H1 locs1 (cells + mc) (slots + ms) Q (F0 m (pc + 3) ls (.int r :: rest))) : W p l e R s m args below meth c H locs cells slots Q (F0 m pc ls st0) := by
  refine vx_calli hr hS (fun q _ h => h) (fun q h => h) (fun q _ h => h) (fun En ce q9 u t H1 locs1 ht hvm hx hB hz hk hS1 hce hcv hcl => ?_) (fun r u t H1 locs1 ht hvm hp hB hz hk hS1 => ?_)
  · obtain ⟨rfl, hW1⟩ := hB
    exact kx u.1 u.2.1 u.2.2 q9 ce H1 locs1 hx (by rw [← ht]; exact hW1) hS1 hce hcv hcl
  · exact kk r u.1 u.2 H1 locs1 hp (by rw [← ht]; exact hB) hS1
theorem k_L {P : Int64 → Mem → AD → Prop} (hr : Run p l e R s m args below meth c H locs cells slots mc ms pc ls st0 rest (QcL E base P a) E base XP) (hS : va_S (fun q : Nat => base ≤ q) s.heap H locs)
    (kx : KX p l e R s m args below meth c (cells + mc) (slots + ms) Q (F0 m pc ls rest) E base XP)
    (kk : ∀ (r : Int64) (M1 : Mem) (ad1 : AD) (H1 : Heap) (locs1 : List Loc), P r M1 ad1 → Wd E base M1 ad1 H1 → va_S (fun q : Nat => base ≤ q) s.heap H1 locs1 → W p l e R s m args below meth c H1 locs1 (cells + mc) (slots + ms) Q (F0 m (pc + 3) ls (.long r :: rest))) : W p l e R s m args below meth c H locs cells slots Q (F0 m pc ls st0) := by
  refine vx_calll hr hS (fun q _ h => h) (fun q h => h) (fun q _ h => h) (fun En ce q9 u t H1 locs1 ht hvm hx hB hz hk hS1 hce hcv hcl => ?_) (fun r u t H1 locs1 ht hvm hp hB hz hk hS1 => ?_)
  · obtain ⟨rfl, hW1⟩ := hB
    exact kx u.1 u.2.1 u.2.2 q9 ce H1 locs1 hx (by rw [← ht]; exact hW1) hS1 hce hcv hcl
  · exact kk r u.1 u.2 H1 locs1 hp (by rw [← ht]; exact hB) hS1
theorem k_V {P : Mem → AD → Prop} (hr : Run p l e R s m args below meth c H locs cells slots mc ms pc ls st0 rest (QcV E base P a) E base XP) (hS : va_S (fun q : Nat => base ≤ q) s.heap H locs)
    (kx : KX p l e R s m args below meth c (cells + mc) (slots + ms) Q (F0 m pc ls rest) E base XP)
    (kk : ∀ (M1 : Mem) (ad1 : AD) (H1 : Heap) (locs1 : List Loc), P M1 ad1 → Wd E base M1 ad1 H1 → va_S (fun q : Nat => base ≤ q) s.heap H1 locs1 → W p l e R s m args below meth c H1 locs1 (cells + mc) (slots + ms) Q (F0 m (pc + 3) ls rest)) : W p l e R s m args below meth c H locs cells slots Q (F0 m pc ls st0) := by
  refine vx_callv hr hS (fun q _ h => h) (fun q h => h) (fun q _ h => h) (fun En ce q9 u t H1 locs1 ht hvm hx hB hz hk hS1 hce hcv hcl => ?_) (fun u t H1 locs1 ht hvm hp hB hz hk hS1 => ?_)
  · obtain ⟨rfl, hW1⟩ := hB
    exact kx u.1 u.2.1 u.2.2 q9 ce H1 locs1 hx (by rw [← ht]; exact hW1) hS1 hce hcv hcl
  · exact kk u.1 u.2 H1 locs1 hp (by rw [← ht]; exact hB) hS1
theorem k_Q {P : Option Nat → Mem → AD → Prop} (hr : Run p l e R s m args below meth c H locs cells slots mc ms pc ls st0 rest (QcQ E base P a) E base XP) (hS : va_S (fun q : Nat => base ≤ q) s.heap H locs)
    (kx : KX p l e R s m args below meth c (cells + mc) (slots + ms) Q (F0 m pc ls rest) E base XP)
    (kn : ∀ (M1 : Mem) (ad1 : AD) (H1 : Heap) (locs1 : List Loc), P none M1 ad1 → Wd E base M1 ad1 H1 → va_S (fun q : Nat => base ≤ q) s.heap H1 locs1 → W p l e R s m args below meth c H1 locs1 (cells + mc) (slots + ms) Q (F0 m (pc + 3) ls (.null :: rest)))
    (kk : ∀ (j : Nat) (M1 : Mem) (ad1 : AD) (H1 : Heap) (locs1 : List Loc), P (some j) M1 ad1 → Wd E base M1 ad1 H1 → va_S (fun q : Nat => base ≤ q) s.heap H1 locs1 → W p l e R s m args below meth c H1 locs1 (cells + mc) (slots + ms) Q (F0 m (pc + 3) ls (.ref (ad1 2 j) :: rest))) : W p l e R s m args below meth c H locs cells slots Q (F0 m pc ls st0) := by
  refine vx_callq hr hS (fun q _ h => h) (fun q h => h) (fun q _ h => h) (fun En ce q9 u t H1 locs1 ht hvm hx hB hz hk hS1 hce hcv hcl => ?_) (fun r u t H1 locs1 ht hvm hp hB hz hk hS1 => ?_)
  · obtain ⟨rfl, hW1⟩ := hB
    exact kx u.1 u.2.1 u.2.2 q9 ce H1 locs1 hx (by rw [← ht]; exact hW1) hS1 hce hcv hcl
  · obtain ⟨ro, rfl, hp⟩ := hp
    cases ro with
    | none => exact kn u.1 u.2 H1 locs1 hp (by rw [← ht]; exact hB) hS1
    | some j => exact kk j u.1 u.2 H1 locs1 hp (by rw [← ht]; exact hB) hS1
theorem e_I {P : Int32 → Mem → AD → Prop} {v : Int32} (hx : p.tables.exec = Jvm.exec) (hb : c.code = cc) (hr : meth.sig.returnType = some .int) (hlocks : meth.locks = false) (hW : Wd E base M ad H) (hS : va_S (fun q : Nat => base ≤ q) s.heap H locs) (hc : cells ≤ mc) (hs : slots ≤ ms) (hdg : decode cc pc = .ok (.ireturn, 1)) (hP : P v M ad) :
    W p l e R s m args below meth c H locs cells slots (vx_MQ below (QcI E base P) XC args s mc ms (A0 base)) (F0 m pc ls [.int v]) :=
  W.widen hc hs (vx_ret (W.iret hx hb hr (fun t ht hWm => ⟨⟨v, (M, ad), rfl, hP, by subst ht; exact hW⟩, hS.F ht⟩) hS.2.2 hdg hlocks))
theorem e_Z {P : Int32 → Mem → AD → Prop} {v : Int32} (hx : p.tables.exec = Jvm.exec) (hb : c.code = cc) (hr : meth.sig.returnType = some .boolean) (hlocks : meth.locks = false) (hW : Wd E base M ad H) (hS : va_S (fun q : Nat => base ≤ q) s.heap H locs) (hc : cells ≤ mc) (hs : slots ≤ ms) (hdg : decode cc pc = .ok (.ireturn, 1)) (hz : v = 0 ∨ v = 1) (hP : P v M ad) :
    W p l e R s m args below meth c H locs cells slots (vx_MQ below (QcI E base P) XC args s mc ms (A0 base)) (F0 m pc ls [.int v]) :=
  W.widen hc hs (vx_ret (W.zret hx hb hr (nar_z hz).1 (fun t ht hWm => ⟨⟨v, (M, ad), rfl, hP, by subst ht; exact hW⟩, hS.F ht⟩) hS.2.2 hdg hlocks))
theorem e_L {P : Int64 → Mem → AD → Prop} {v : Int64} (hx : p.tables.exec = Jvm.exec) (hb : c.code = cc) (hr : meth.sig.returnType = some .long) (hlocks : meth.locks = false) (hW : Wd E base M ad H) (hS : va_S (fun q : Nat => base ≤ q) s.heap H locs) (hc : cells ≤ mc) (hs : slots ≤ ms) (hdg : decode cc pc = .ok (.lreturn, 1)) (hP : P v M ad) :
    W p l e R s m args below meth c H locs cells slots (vx_MQ below (QcL E base P) XC args s mc ms (A0 base)) (F0 m pc ls [.long v]) :=
  W.widen hc hs (vx_ret (W.lret hx hb hr (fun t ht hWm => ⟨⟨v, (M, ad), rfl, hP, by subst ht; exact hW⟩, hS.F ht⟩) hS.2.2 hdg hlocks))
theorem e_V {P : Mem → AD → Prop} (hx : p.tables.exec = Jvm.exec) (hb : c.code = cc) (hr : meth.sig.returnType = none) (hlocks : meth.locks = false) (hW : Wd E base M ad H) (hS : va_S (fun q : Nat => base ≤ q) s.heap H locs) (hc : cells ≤ mc) (hs : slots ≤ ms) (hdg : decode cc pc = .ok (.return_, 1)) (hP : P M ad) :
    W p l e R s m args below meth c H locs cells slots (vx_MQ below (QcV E base P) XC args s mc ms (A0 base)) (F0 m pc ls []) :=
  W.widen hc hs (vx_ret (W.vret hx hb hr (fun t ht hWm => ⟨⟨(M, ad), rfl, hP, by subst ht; exact hW⟩, hS.F ht⟩) hS.2.2 hdg hlocks))
theorem e_Qs {P : Option Nat → Mem → AD → Prop} {j : Nat} (hx : p.tables.exec = Jvm.exec) (hb : c.code = cc) (hr : meth.sig.returnType = some (.object RX2)) (hlocks : meth.locks = false) (hW : Wd E base M ad H) (hS : va_S (fun q : Nat => base ≤ q) s.heap H locs) (hc : cells ≤ mc) (hs : slots ≤ ms) (hdg : decode cc pc = .ok (.areturn, 1)) (hP : P (some j) M ad) :
    W p l e R s m args below meth c H locs cells slots (vx_MQ below (QcQ E base P) XC args s mc ms (A0 base)) (F0 m pc ls [.ref (ad 2 j)]) :=
  W.widen hc hs (vx_ret (W.aret hx hb hr (Or.inl ⟨_, rfl⟩) (Or.inr ⟨_, rfl⟩) (fun t ht hWm => ⟨⟨some (ad 2 j), (M, ad), rfl, ⟨some j, rfl, hP⟩, by subst ht; exact hW⟩, hS.F ht⟩) hS.2.2 hdg hlocks))
theorem e_Qn {P : Option Nat → Mem → AD → Prop} (hx : p.tables.exec = Jvm.exec) (hb : c.code = cc) (hr : meth.sig.returnType = some (.object RX2)) (hlocks : meth.locks = false) (hW : Wd E base M ad H) (hS : va_S (fun q : Nat => base ≤ q) s.heap H locs) (hc : cells ≤ mc) (hs : slots ≤ ms) (hdg : decode cc pc = .ok (.areturn, 1)) (hP : P none M ad) :
    W p l e R s m args below meth c H locs cells slots (vx_MQ below (QcQ E base P) XC args s mc ms (A0 base)) (F0 m pc ls [.null]) :=
  W.widen hc hs (vx_ret (W.aret hx hb hr (Or.inl ⟨_, rfl⟩) (Or.inl rfl) (fun t ht hWm => ⟨⟨none, (M, ad), rfl, ⟨none, rfl, hP⟩, by subst ht; exact hW⟩, hS.F ht⟩) hS.2.2 hdg hlocks))
/-- a heap that only grew holds what it held -/
theorem Wd.grow {H1 : Heap} (hW : Wd E base M ad H) (hk : ∀ q : Nat, q < H.size → H1[q]? = H[q]?) : Wd E base M ad H1 :=
  ⟨fun κ i h => ⟨(hW.1 κ i h).1, (hW.1 κ i h).2.kept rfl (hk _ (hW.1 κ i h).2.lt) fun _ => rfl⟩, hW.2.1, hW.2.2⟩
theorem e_throw (k : Nat) {own text : String} {ik is ic : Nat} (hx : p.tables.exec = Jvm.exec) (hb : c.code = cc) (hlt : l.stackTraces = false) (hown : s.vm.findClass own = some m.cls) (hts : ∀ w ∈ WSG, w.before args s = true) (hT : TB E base s s.heap)
    (hst : (own, is, text) ∈ ST) (hk : Cond.classLink own ik (exN k) ∈ WSG) (hini : Cond.initialized (exN k) ∈ WSG) (hat : ∀ w ∈ vx_atS own ic (exN k) EXN, w ∈ WSG ∨ w ∈ NG) (hgood : ∀ w ∈ Cond.classLink own ik (exN k) :: Cond.initialized (exN k) :: vx_atS own ic (exN k) EXN, vx_ot w = true) (hfit : Bundle.fit (exN k) = true)
    (d0 : decode cc pc = .ok (.new ik, 3)) (d3 : decode cc (pc + 3) = .ok (.dup, 1)) (d4 : decode cc (pc + 4) = .ok (.ldc is, 2)) (d6 : decode cc (pc + 6) = .ok (.invokespecial ic, 3)) (d9 : decode cc (pc + 9) = .ok (.athrow, 1))
    (hnx : ∀ x ∈ c.exceptionTable.toList, False) (hRf : 5 < R.frames) (hRl : (rest.map fun v => v.category).sum + 82 ≤ R.locals) (hRc : cells + 1 ≤ R.cells) (hRs : slots + 6 ≤ R.slots) (hlocks : meth.locks = false) (hsize : ls.size = c.maxLocals)
    (hW : Wd E base M ad H) (hS : va_S (fun q : Nat => base ≤ q) s.heap H locs) (hc : cells + 1 ≤ mc) (hs : slots + 6 ≤ ms) (hX : XP k M ad) :
    W p l e R s m args below meth c H locs cells slots (vx_MQ below Qc (XCo E base XP) args s mc ms (A0 base)) (F0 m pc ls rest) := by
  obtain ⟨sa, hsa⟩ := hT.2.2.1 _ hst
  refine vx_throwS (names := EXN) (A := fun q => base ≤ q) hx hb hlt hown hfit (by decide +kernel) (hts _ hk) (hts _ hini) hsa (fun w hw => ?_) hgood hT.2.2.2.1 hT.2.2.2.2.1 hS hsize d0 d3 d4 d6 d9 (fun x hx => (hnx x hx).elim) hRf hRl hRc hRs hlocks (fun t hvm hz hk => ?_) hS.2.2 hc hs
  · rcases hat w hw with h | h
    · exact hts w h
    · exact va_Nw.use (isMv_on (List.mem_filter.mp h).2) (hT.2.1 w h)
  · exact ⟨(k, M, ad), hX, ⟨rfl, hW.grow hk⟩, Nat.le_trans hS.1 hz, fun q h1 h2 => (hk q (Nat.lt_of_lt_of_le h1 hS.1)).trans (hS.2.1 q h1 h2)⟩
/-- thrown by a callee, not caught here -/
theorem kx_out {XP0 : Nat → Mem → AD → Prop} (hnx : ∀ x ∈ c.exceptionTable.toList, False) (hlocks : meth.locks = false) (hc : cells ≤ mc) (hs : slots ≤ ms) (hX : ∀ k M1 ad1, XP0 k M1 ad1 → XP k M1 ad1) :
    KX p l e R s m args below meth c cells slots (vx_MQ below Qc (XCo E base XP) args s mc ms (A0 base)) (F0 m pc ls rest) E base XP0 := fun k M1 ad1 q9 ce H1 locs1 h hW hS h1 h2 h3 =>
  vx_out (fun x hx => (hnx x hx).elim) hlocks h1 h2 h3 (fun t ht hvm => ⟨(k, M1, ad1), hX k M1 ad1 h, ⟨rfl, by rw [ht]; exact hW⟩, hS.F ht⟩) hS.2.2 hc hs
end ENDS
end
section
/-! a walk's goal at a place; the words' rows -/
def WL (p : Program) (l : Launch) (e : Env) (R : Room) (s : State) (m : MethodId) (args : Array Value) (below : List Frame) (meth : Method) (c : Code) (Q : State → Prop) (E : GE) (base nL : Nat) (M : Mem) (ad : AD) (pc : Nat) (lv : List (Nat × Value)) (st : List Value) (cells slots : Nat) : Prop :=
  ∀ (H : Heap) (locs : List Loc) (ls : Array Slot), Wd E base M ad H → va_S (fun q : Nat => base ≤ q) s.heap H locs → lv_has ls nL lv → W p l e R s m args below meth c H locs cells slots Q (F0 m pc ls st)
def AG (fr : Nat → Nat → Bool) (ad ad1 : AD) : Prop := ∀ a b, fr a b = false → ad a b = ad1 a b
theorem AG_refl {fr : Nat → Nat → Bool} {ad : AD} : AG fr ad ad := fun _ _ _ => rfl
theorem AG_eq {fr : Nat → Nat → Bool} {ad ad1 : AD} (h : ad = ad1) : AG fr ad ad1 := fun _ _ _ => by rw [h]
theorem AG_new {fr : Nat → Nat → Bool} {ad ad1 ad2 : AD} {κ i q : Nat} (h : AG fr ad ad1) (hf : fr κ i = true) (h2 : ad2 = upA ad1 κ i q) : AG fr ad ad2 := fun a b hab => by
  rw [h a b hab, h2]
  unfold upA
  rw [if_neg (fun z => by rw [z.1, z.2, hf] at hab; cases hab)]
theorem AG_call {fr fr2 : Nat → Nat → Bool} {ad ad1 ad2 : AD} (h : AG fr ad ad1) (h2 : AG fr2 ad1 ad2) (hs : ∀ a b, fr a b = false → fr2 a b = false) : AG fr ad ad2 := fun a b hab => by
  rw [h a b hab, h2 a b (hs a b hab)]
theorem upA_ne {ad ad1 : AD} {κ i q a b : Nat} (h : ad1 = upA ad κ i q) (hn : ¬ a = κ) : ad a b = ad1 a b := by
  rw [h]; unfold upA; rw [if_neg (fun z => hn z.1)]
theorem memW {w : Cond} (h : w ∈ lw_tbl) (hg : goodWord w = true) : w ∈ WSG := List.mem_filter.mpr ⟨h, hg⟩
theorem memN {w : Cond} (h : w ∈ lw_tbl) (hg : isMv w = true) : w ∈ NG := List.mem_filter.mpr ⟨h, hg⟩
theorem mE_wN {M M1 : Mem} {κ i a b : Nat} (h : M1 = wN M κ i) (he : mE M a b = true) : mE M1 a b = true := by
  rw [h]; show (if a = κ ∧ b = i then true else M.1 a b) = true
  split
  · rfl
  · exact he
theorem mE_wN1 {M M1 : Mem} {κ i : Nat} (h : M1 = wN M κ i) : mE M1 κ i = true := by
  rw [h]; show (if κ = κ ∧ i = i then true else M.1 κ i) = true
  rw [if_pos ⟨rfl, rfl⟩]
theorem sw_out {x : Int32} (h0 : ¬ x = 0) (h1 : ¬ x = 1) (h2 : ¬ x = 2) (h3 : ¬ x = 3) (h4 : ¬ x = 4) (h5 : ¬ x = 5) (h6 : ¬ x = 6) (h7 : ¬ x = 7) (h8 : ¬ x = 8) (h9 : ¬ x = 9) (h10 : ¬ x = 10) (h11 : ¬ x = 11) (h12 : ¬ x = 12) (h13 : ¬ x = 13) (h14 : ¬ x = 14) (h15 : ¬ x = 15) (h16 : ¬ x = 16) (h17 : ¬ x = 17) (h18 : ¬ x = 18) : x.toInt < 0 ∨ 18 < x.toInt := by
  have n0 := lv_neT (a := 0) h0 rfl
  have n1 := lv_neT (a := 1) h1 rfl
  have n2 := lv_neT (a := 2) h2 rfl
  have n3 := lv_neT (a := 3) h3 rfl
  have n4 := lv_neT (a := 4) h4 rfl
  have n5 := lv_neT (a := 5) h5 rfl
  have n6 := lv_neT (a := 6) h6 rfl
  have n7 := lv_neT (a := 7) h7 rfl
  have n8 := lv_neT (a := 8) h8 rfl
  have n9 := lv_neT (a := 9) h9 rfl
  have n10 := lv_neT (a := 10) h10 rfl
  have n11 := lv_neT (a := 11) h11 rfl
  have n12 := lv_neT (a := 12) h12 rfl
  have n13 := lv_neT (a := 13) h13 rfl
  have n14 := lv_neT (a := 14) h14 rfl
  have n15 := lv_neT (a := 15) h15 rfl
  have n16 := lv_neT (a := 16) h16 rfl
  have n17 := lv_neT (a := 17) h17 rfl
  have n18 := lv_neT (a := 18) h18 rfl
  omega
end
section
/-! weakest preconditions of the methods over the memory: laid by wip/whole/gen.py out of the listing -/
def b_J7_fill_53178_11_5 (Q : Mem → Prop) (k5 : Mem → Int32 → Int32 → Int32 → Prop) (M : Mem) (x1 : Int32) (x2 : Int32) (x3 : Int32) : Prop :=
  ((x3 ≤ x2 → (Q M)) ∧ (¬ x3 ≤ x2 → (mE M 11 0 = true ∧ (vp_in x2 12 ∧ (∀ M_5 : Mem, M_5 = wI M 11 0 x2.toNatClampNeg x1 → (∀ v_6 : Int32, v_6 = x2 + 1 → (k5 M_5 x1 v_6 x3)))))))
def l_J7_fill_53178_11_5 (Q : Mem → Prop) (n : Nat) : Mem → Int32 → Int32 → Int32 → Prop :=
  Nat.rec (motive := fun _ => Mem → Int32 → Int32 → Int32 → Prop) (fun _ _ _ _ => False) (fun _ k => b_J7_fill_53178_11_5 Q k) n
def w_J7_fill_53178_11 (M : Mem) (a1 : Int32) (Q : Mem → Prop) : Prop :=
  (mE M 11 0 = true ∧ (∃ n : Nat, l_J7_fill_53178_11_5 Q n M a1 0 12))
def w_X4_init (M : Mem) (Q : Mem → Prop) : Prop :=
  (mE M 10 0 = false ∧ (∀ M_3 : Mem, M_3 = wN M 10 0 → (mE M_3 4 0 = true ∧ (∀ M_7 : Mem, M_7 = wF M_3 4 0 0 true → (mE M_7 11 0 = false ∧ (∀ M_10 : Mem, M_10 = wN M_7 11 0 → (∀ M_15 : Mem, M_15 = wF M_10 4 0 1 true → (mE M_15 12 0 = false ∧ (∀ M_18 : Mem, M_18 = wN M_15 12 0 → (∀ M_24 : Mem, M_24 = wF M_18 4 0 2 true → (∀ M_25 : Mem, M_25 = wI M_24 4 0 3 0 → (∀ M_26 : Mem, M_26 = wI M_25 4 0 4 0 → (mF M_26 4 0 1 = true ∧ (w_J7_fill_53178_11 M_26 1 (fun (M_29 : Mem) => (Q M_29))))))))))))))))
def b_X5_init_159 (Q : Mem → Prop) (k159 : Mem → Int32 → Prop) (M : Mem) (x1 : Int32) : Prop :=
  (((12 : Int32) ≤ x1 → (Q M)) ∧ (¬ (12 : Int32) ≤ x1 → (mE M 5 0 = true ∧ (mF M 5 0 2 = true ∧ (mE M 32 0 = true ∧ (vp_in x1 12 ∧ (∀ M_310 : Mem, M_310 = wI M 32 0 x1.toNatClampNeg 1 → (∀ v_311 : Int32, v_311 = x1 + 1 → (k159 M_310 v_311)))))))))
def l_X5_init_159 (Q : Mem → Prop) (n : Nat) : Mem → Int32 → Prop :=
  Nat.rec (motive := fun _ => Mem → Int32 → Prop) (fun _ _ => False) (fun _ k => b_X5_init_159 Q k) n
def w_X5_init (M : Mem) (Q : Mem → Prop) : Prop :=
  (mE M 32 0 = false ∧ (∀ M_3 : Mem, M_3 = wN M 32 0 → (mE M_3 5 0 = true ∧ (∀ M_7 : Mem, M_7 = wF M_3 5 0 2 true → (mE M_7 34 0 = false ∧ (∀ M_10 : Mem, M_10 = wN M_7 34 0 → (∀ M_15 : Mem, M_15 = wF M_10 5 0 4 true → (mE M_15 35 0 = false ∧ (∀ M_18 : Mem, M_18 = wN M_15 35 0 → (∀ M_24 : Mem, M_24 = wF M_18 5 0 5 true → (mE M_24 36 0 = false ∧ (∀ M_27 : Mem, M_27 = wN M_24 36 0 → (∀ M_34 : Mem, M_34 = wF M_27 5 0 6 true → (mE M_34 37 0 = false ∧ (∀ M_37 : Mem, M_37 = wN M_34 37 0 → (∀ M_45 : Mem, M_45 = wF M_37 5 0 7 true → (mE M_45 38 0 = false ∧ (∀ M_48 : Mem, M_48 = wN M_45 38 0 → (∀ M_57 : Mem, M_57 = wF M_48 5 0 8 true → (mE M_57 39 0 = false ∧ (∀ M_60 : Mem, M_60 = wN M_57 39 0 → (∀ M_70 : Mem, M_70 = wF M_60 5 0 9 true → (mE M_70 40 0 = false ∧ (∀ M_73 : Mem, M_73 = wN M_70 40 0 → (∀ M_84 : Mem, M_84 = wF M_73 5 0 10 true → (mE M_84 41 0 = false ∧ (∀ M_87 : Mem, M_87 = wN M_84 41 0 → (∀ M_99 : Mem, M_99 = wF M_87 5 0 11 true → (mE M_99 42 0 = false ∧ (∀ M_102 : Mem, M_102 = wN M_99 42 0 → (∀ M_115 : Mem, M_115 = wF M_102 5 0 12 true → (mE M_115 43 0 = false ∧ (∀ M_118 : Mem, M_118 = wN M_115 43 0 → (∀ M_132 : Mem, M_132 = wF M_118 5 0 13 true → (mE M_132 44 0 = false ∧ (∀ M_135 : Mem, M_135 = wN M_132 44 0 → (∀ M_150 : Mem, M_150 = wF M_135 5 0 14 true → (mE M_150 45 0 = false ∧ (∀ M_153 : Mem, M_153 = wN M_150 45 0 → (∀ M_169 : Mem, M_169 = wF M_153 5 0 15 true → (mE M_169 46 0 = false ∧ (∀ M_172 : Mem, M_172 = wN M_169 46 0 → (∀ M_189 : Mem, M_189 = wF M_172 5 0 16 true → (mE M_189 47 0 = false ∧ (∀ M_192 : Mem, M_192 = wN M_189 47 0 → (∀ M_210 : Mem, M_210 = wF M_192 5 0 17 true → (mE M_210 48 0 = false ∧ (∀ M_213 : Mem, M_213 = wN M_210 48 0 → (∀ M_232 : Mem, M_232 = wF M_213 5 0 18 true → (mE M_232 50 0 = false ∧ (∀ M_235 : Mem, M_235 = wN M_232 50 0 → (∀ M_255 : Mem, M_255 = wF M_235 5 0 20 true → (mE M_255 51 0 = false ∧ (∀ M_258 : Mem, M_258 = wN M_255 51 0 → (∀ M_279 : Mem, M_279 = wF M_258 5 0 21 true → (mE M_279 52 0 = false ∧ (∀ M_282 : Mem, M_282 = wN M_279 52 0 → (∀ M_304 : Mem, M_304 = wF M_282 5 0 22 true → (∃ n : Nat, l_X5_init_159 Q n M_304 0)))))))))))))))))))))))))))))))))))))))))))))))))))))))))))
def w_X0_init (M : Mem) (t : Nat) (Q : Mem → Prop) : Prop :=
  (mE M 20 t = false ∧ (∀ M_3 : Mem, M_3 = wN M 20 t → (mE M_3 0 t = true ∧ (∀ M_7 : Mem, M_7 = wF M_3 0 t 0 true → (mE M_7 21 t = false ∧ (∀ M_10 : Mem, M_10 = wN M_7 21 t → (∀ M_15 : Mem, M_15 = wF M_10 0 t 1 true → (∀ M_16 : Mem, M_16 = wI M_15 0 t 2 0 → (∀ M_17 : Mem, M_17 = wL M_16 0 t 3 0 → (Q M_17))))))))))
def w_X3_init (M : Mem) (t : Nat) (a1 : Int32) (Q : Mem → Prop) : Prop :=
  (mE M 3 t = true ∧ (∀ M_2 : Mem, M_2 = wL M 3 t 1 0 → (∀ M_3 : Mem, M_3 = wL M_2 3 t 2 0 → (∀ M_4 : Mem, M_4 = wI M_3 3 t 0 a1 → (Q M_4)))))
def w_X1_init (M : Mem) (t : Nat) (a1 : Int32) (Q : Mem → Prop) : Prop :=
  (mE M 22 t = false ∧ (∀ M_3 : Mem, M_3 = wN M 22 t → (mE M_3 1 t = true ∧ (∀ M_7 : Mem, M_7 = wF M_3 1 t 1 true → (∀ M_8 : Mem, M_8 = wI M_7 1 t 2 0 → (∀ M_9 : Mem, M_9 = wI M_8 1 t 0 a1 → (Q M_9)))))))
def w_X2_init (M : Mem) (t : Nat) (a1 : Int32) (a2 : Int32) (Q : Mem → Prop) : Prop :=
  (mE M 0 t = false ∧ (∀ M_3 : Mem, M_3 = wN M 0 t → (w_X0_init M_3 t (fun (M_7 : Mem) => (mE M_7 2 t = true ∧ (mE M_7 0 t = true ∧ (∀ M_12 : Mem, M_12 = wF M_7 2 t 3 true → (∀ M_14 : Mem, M_14 = wI M_12 2 t 4 0 → ((0 : Int32) = 0 ∨ 0 = 1 ∧ (∀ M_15 : Mem, M_15 = wI M_14 2 t 5 0 → ((0 : Int32) = 0 ∨ 0 = 1 ∧ (∀ M_17 : Mem, M_17 = wI M_15 2 t 6 0 → (mE M_17 23 t = false ∧ (∀ M_21 : Mem, M_21 = wN M_17 23 t → (∀ M_26 : Mem, M_26 = wF M_21 2 t 7 true → (mE M_26 24 t = false ∧ (∀ M_29 : Mem, M_29 = wN M_26 24 t → (∀ M_35 : Mem, M_35 = wF M_29 2 t 8 true → (mE M_35 25 t = false ∧ (∀ M_38 : Mem, M_38 = wN M_35 25 t → (∀ M_45 : Mem, M_45 = wF M_38 2 t 9 true → (∀ M_46 : Mem, M_46 = wI M_45 2 t 10 0 → (∀ M_47 : Mem, M_47 = wI M_46 2 t 11 0 → (mE M_47 26 t = false ∧ (∀ M_50 : Mem, M_50 = wN M_47 26 t → (∀ M_58 : Mem, M_58 = wF M_50 2 t 12 true → (∀ M_59 : Mem, M_59 = wI M_58 2 t 13 0 → (∀ M_60 : Mem, M_60 = wI M_59 2 t 0 a1 → (mE M_60 3 t = false ∧ (∀ M_63 : Mem, M_63 = wN M_60 3 t → (w_X3_init M_63 t a2 (fun (M_73 : Mem) => (mE M_73 2 t = true ∧ (mE M_73 3 t = true ∧ (∀ M_77 : Mem, M_77 = wF M_73 2 t 1 true → (mE M_77 1 t = false ∧ (∀ M_81 : Mem, M_81 = wN M_77 1 t → (w_X1_init M_81 t a2 (fun (M_87 : Mem) => (mE M_87 2 t = true ∧ (mE M_87 1 t = true ∧ (∀ M_92 : Mem, M_92 = wF M_87 2 t 2 true → (Q M_92)))))))))))))))))))))))))))))))))))))))))))
def b_X4_join_48 (Q : Int32 → Mem → Prop) (X : Nat → Mem → Prop) (M : Mem) (x2 : Int32) (s0 : Int32) (s1 : Int32) (s2 : Nat) (s3 : Nat) (s4 : Int32) : Prop :=
  (mE M 2 s2 = true ∧ (w_X2_init M s2 s1 s0 (fun (M_16 : Mem) => (mE M_16 10 0 = true ∧ (vp_in s4 6 ∧ (s3 = s4.toNatClampNeg ∧ (mE M_16 2 s3 = true ∧ (∀ M_22 : Mem, M_22 = wF M_16 10 0 s4.toNatClampNeg true → (mE M_22 4 0 = true ∧ (∀ M_26 : Mem, M_26 = wI M_22 4 0 3 ((mI M_22 4 0 3) + 1) → (Q x2 M_26)))))))))))
def w_X4_join (M : Mem) (a1 : Int32) (Q : Int32 → Mem → Prop) (X : Nat → Mem → Prop) : Prop :=
  (mE M 4 0 = true ∧ (mF M 4 0 0 = true ∧ (mE M 10 0 = true ∧ (((mI M 4 0 3) < 6 → (∀ v_5 : Int32, v_5 = (mI M 4 0 3) → (mE M 2 v_5.toNatClampNeg = false ∧ (∀ M_8 : Mem, M_8 = wN M 2 v_5.toNatClampNeg → ((a1 = 0 → (b_X4_join_48 Q X M_8 v_5 0 v_5 v_5.toNatClampNeg v_5.toNatClampNeg v_5)) ∧ (¬ a1 = 0 → (b_X4_join_48 Q X M_8 v_5 4095 v_5 v_5.toNatClampNeg v_5.toNatClampNeg v_5))))))) ∧ (¬ (mI M 4 0 3) < 6 → (X 0 M))))))
def w_L_join (M : Mem) (a1 : Int32) (Q : Int32 → Mem → Prop) : Prop :=
  (mE M 4 0 = true ∧ (w_X4_join M a1 (fun (r_5 : Int32) (M_3 : Mem) => (mE M_3 60 0 = true ∧ (vp_in 0 1 ∧ (∀ M_10 : Mem, M_10 = wL M_3 60 0 ((0 : Int32).toNatClampNeg) r_5.toInt64 → (Q 0 M_10))))) (fun (k : Nat) (M_2 : Mem) => (k = 0 ∧ (Q 1 M_2)))))
def w_X5_fits (M : Mem) (a1 : Int32) (Q : Int32 → Mem → Prop) : Prop :=
  (mE M 5 0 = true ∧ (∀ M_2 : Mem, M_2 = wI M 5 0 0 a1 → ((a1 = 0 → (Q 1 M_2)) ∧ (¬ a1 = 0 → (Q 0 M_2)))))
def b_X5_join_52 (Q : Int32 → Mem → Prop) (M : Mem) (s0 : Int32) (s1 : Int32) : Prop :=
  (mE M 35 0 = true ∧ (vp_in s1 6 ∧ (∀ M_19 : Mem, M_19 = wI M 35 0 s1.toNatClampNeg s0 → (mE M_19 5 0 = true ∧ (∀ M_21 : Mem, M_21 = wI M_19 5 0 3 ((mI M_19 5 0 3) + 1) → (Q ((mI M_21 5 0 3) - 1) M_21))))))
def b_X5_join_15 (Q : Int32 → Mem → Prop) (M : Mem) (x1 : Int32) (s0 : Int32) : Prop :=
  (mE M 5 0 = true ∧ (w_X5_fits M s0 (fun (r_7 : Int32) (M_5 : Mem) => ((r_7 = 0 → (Q 0 M_5)) ∧ (¬ r_7 = 0 → (mE M_5 5 0 = true ∧ (mF M_5 5 0 4 = true ∧ (mE M_5 34 0 = true ∧ (vp_in (mI M_5 5 0 3) 6 ∧ ((1 : Int32) = 0 ∨ 1 = 1 ∧ (∀ M_13 : Mem, M_13 = wI M_5 34 0 ((mI M_5 5 0 3).toNatClampNeg) 1 → (mF M_13 5 0 5 = true ∧ ((x1 = 0 → (b_X5_join_52 Q M_13 0 (mI M_13 5 0 3))) ∧ (¬ x1 = 0 → (b_X5_join_52 Q M_13 4095 (mI M_13 5 0 3))))))))))))))))
def w_X5_join (M : Mem) (a1 : Int32) (Q : Int32 → Mem → Prop) : Prop :=
  (mE M 5 0 = true ∧ (((mI M 5 0 3) = 6 → (b_X5_join_15 Q M a1 1)) ∧ (¬ (mI M 5 0 3) = 6 → (b_X5_join_15 Q M a1 0))))
def w_X5_thrown (M : Mem) (Q : Int32 → Mem → Prop) : Prop :=
  (mE M 5 0 = true ∧ (Q (mI M 5 0 0) M))
def b_X4_find_13 (Q : Option Nat → Mem → Prop) (M : Mem) : Prop :=
  (Q none M)
def w_X4_find (M : Mem) (a1 : Int32) (Q : Option Nat → Mem → Prop) : Prop :=
  ((a1 < 0 → (b_X4_find_13 Q M)) ∧ (¬ a1 < 0 → (mE M 4 0 = true ∧ (mF M 4 0 0 = true ∧ (mE M 10 0 = true ∧ ((a1 < 6 → (vp_in a1 6 ∧ ((mF M 10 0 a1.toNatClampNeg = true → (Q (some a1.toNatClampNeg) M)) ∧ (mF M 10 0 a1.toNatClampNeg = false → (Q none M))))) ∧ (¬ a1 < 6 → (b_X4_find_13 Q M))))))))
def w_X4_known (M : Mem) (a1 : Int32) (Q : Nat → Mem → Prop) (X : Nat → Mem → Prop) : Prop :=
  (mE M 4 0 = true ∧ (w_X4_find M a1 (fun (z : Option Nat) (M_3 : Mem) => ((z = none → (X 1 M_3)) ∧ (∀ r_5 : Nat, z = some r_5 → (Q r_5 M_3))))))
def w_J6_bitCount_0f7a4 (M : Mem) (a0 : Int32) (Q : Int32 → Mem → Prop) : Prop :=
  (∀ v_1 : Int32, v_1 = (a0 - (((a0.toUInt32 >>> ((1 : Int32).toUInt32 &&& Int32.toUInt32 31)).toInt32) &&& 1431655765)) → (∀ v_2 : Int32, v_2 = ((v_1 &&& 858993459) + (((v_1.toUInt32 >>> ((2 : Int32).toUInt32 &&& Int32.toUInt32 31)).toInt32) &&& 858993459)) → (∀ v_3 : Int32, v_3 = ((v_2 + ((v_2.toUInt32 >>> ((4 : Int32).toUInt32 &&& Int32.toUInt32 31)).toInt32)) &&& 252645135) → (∀ v_4 : Int32, v_4 = (v_3 + ((v_3.toUInt32 >>> ((8 : Int32).toUInt32 &&& Int32.toUInt32 31)).toInt32)) → (∀ v_5 : Int32, v_5 = (v_4 + ((v_4.toUInt32 >>> ((16 : Int32).toUInt32 &&& Int32.toUInt32 31)).toInt32)) → (Q (v_5 &&& 63) M))))))
def w_X4_leave (M : Mem) (a1 : Int32) (Q : Int32 → Mem → Prop) (X : Nat → Mem → Prop) : Prop :=
  (mE M 4 0 = true ∧ (w_X4_known M a1 (fun (r_5 : Nat) (M_3 : Mem) => (mE M_3 4 0 = true ∧ (mF M_3 4 0 0 = true ∧ (mE M_3 2 r_5 = true ∧ (mE M_3 10 0 = true ∧ (vp_in (mI M_3 2 r_5 0) 6 ∧ (∀ M_11 : Mem, M_11 = wF M_3 10 0 ((mI M_3 2 r_5 0).toNatClampNeg) false → (mF M_11 2 r_5 1 = true ∧ (mE M_11 3 r_5 = true ∧ (w_J6_bitCount_0f7a4 M_11 (mI M_11 3 r_5 0) (fun (r_17 : Int32) (M_15 : Mem) => (Q r_17 M_15)))))))))))) X))
def w_L_leave (M : Mem) (a1 : Int32) (Q : Int32 → Mem → Prop) : Prop :=
  (mE M 4 0 = true ∧ (w_X4_leave M a1 (fun (r_5 : Int32) (M_3 : Mem) => (mE M_3 60 0 = true ∧ (vp_in 0 1 ∧ (∀ M_8 : Mem, M_8 = wL M_3 60 0 ((0 : Int32).toNatClampNeg) r_5.toInt64 → (Q 0 M_8))))) (fun (k : Nat) (M_2 : Mem) => (k = 1 ∧ (Q 1 M_2)))))
def w_X5_isPeer (M : Mem) (a1 : Int32) (Q : Int32 → Mem → Prop) : Prop :=
  ((a1 < 0 → (Q 0 M)) ∧ (¬ a1 < 0 → (mE M 5 0 = true ∧ (((mI M 5 0 3) ≤ a1 → (Q 0 M)) ∧ (¬ (mI M 5 0 3) ≤ a1 → (mF M 5 0 4 = true ∧ (mE M 34 0 = true ∧ (vp_in a1 6 ∧ (((mI M 34 0 a1.toNatClampNeg) = 0 → (Q 0 M)) ∧ (¬ (mI M 34 0 a1.toNatClampNeg) = 0 → (Q 1 M)))))))))))
def b_X5_count_4 (Q : Int32 → Mem → Prop) (k4 : Mem → Int32 → Int32 → Int32 → Prop) (M : Mem) (x0 : Int32) (x1 : Int32) (x2 : Int32) : Prop :=
  (((12 : Int32) ≤ x2 → (Q x1 M)) ∧ (¬ (12 : Int32) ≤ x2 → (∀ v_2 : Int32, v_2 = (x1 + ((x0 >>> (x2 &&& 31)) &&& 1)) → (∀ v_3 : Int32, v_3 = x2 + 1 → (k4 M x0 v_2 v_3)))))
def l_X5_count_4 (Q : Int32 → Mem → Prop) (n : Nat) : Mem → Int32 → Int32 → Int32 → Prop :=
  Nat.rec (motive := fun _ => Mem → Int32 → Int32 → Int32 → Prop) (fun _ _ _ _ => False) (fun _ k => b_X5_count_4 Q k) n
def w_X5_count (M : Mem) (a0 : Int32) (Q : Int32 → Mem → Prop) : Prop :=
  (∃ n : Nat, l_X5_count_4 Q n M a0 0 0)
def b_X5_leave_14 (Q : Int32 → Mem → Prop) (M : Mem) (x1 : Int32) (s0 : Int32) : Prop :=
  (mE M 5 0 = true ∧ (w_X5_fits M s0 (fun (r_11 : Int32) (M_9 : Mem) => ((r_11 = 0 → (Q 0 M_9)) ∧ (¬ r_11 = 0 → (mE M_9 5 0 = true ∧ (mF M_9 5 0 4 = true ∧ (mE M_9 34 0 = true ∧ (vp_in x1 6 ∧ ((0 : Int32) = 0 ∨ 0 = 1 ∧ (∀ M_17 : Mem, M_17 = wI M_9 34 0 x1.toNatClampNeg 0 → (mF M_17 5 0 5 = true ∧ (mE M_17 35 0 = true ∧ (vp_in x1 6 ∧ (w_X5_count M_17 (mI M_17 35 0 x1.toNatClampNeg) (fun (r_25 : Int32) (M_23 : Mem) => (Q r_25 M_23)))))))))))))))))
def w_X5_leave (M : Mem) (a1 : Int32) (Q : Int32 → Mem → Prop) : Prop :=
  (mE M 5 0 = true ∧ (w_X5_isPeer M a1 (fun (r_5 : Int32) (M_3 : Mem) => ((r_5 = 0 → (b_X5_leave_14 Q M_3 a1 1)) ∧ (¬ r_5 = 0 → (b_X5_leave_14 Q M_3 a1 0))))))
def b_X4_checkPiece_10 (Q : Mem → Prop) (X : Nat → Mem → Prop) (M : Mem) : Prop :=
  (X 1 M)
def w_X4_checkPiece (M : Mem) (a0 : Int32) (Q : Mem → Prop) (X : Nat → Mem → Prop) : Prop :=
  ((a0 < 0 → (b_X4_checkPiece_10 Q X M)) ∧ (¬ a0 < 0 → ((a0 < 12 → (Q M)) ∧ (¬ a0 < 12 → (b_X4_checkPiece_10 Q X M)))))
def b_X4_setPriority_13 (Q : Int32 → Mem → Prop) (X : Nat → Mem → Prop) (M : Mem) : Prop :=
  (X 2 M)
def w_X4_setPriority (M : Mem) (a1 : Int32) (a2 : Int32) (Q : Int32 → Mem → Prop) (X : Nat → Mem → Prop) : Prop :=
  (w_X4_checkPiece M a1 (fun (M_2 : Mem) => ((a2 < 0 → (b_X4_setPriority_13 Q X M_2)) ∧ (¬ a2 < 0 → ((a2 ≤ 3 → (mE M_2 4 0 = true ∧ (mF M_2 4 0 1 = true ∧ (mE M_2 11 0 = true ∧ (vp_in a1 12 ∧ (∀ v_11 : Int32, v_11 = (mI M_2 11 0 a1.toNatClampNeg) → (vp_in a1 12 ∧ (∀ M_13 : Mem, M_13 = wI M_2 11 0 a1.toNatClampNeg a2 → (Q v_11 M_13))))))))) ∧ (¬ a2 ≤ 3 → (b_X4_setPriority_13 Q X M_2)))))) X)
def w_L_setPriority (M : Mem) (a1 : Int32) (a2 : Int32) (Q : Int32 → Mem → Prop) : Prop :=
  (mE M 4 0 = true ∧ (w_X4_setPriority M a1 a2 (fun (r_5 : Int32) (M_3 : Mem) => (mE M_3 60 0 = true ∧ (vp_in 0 1 ∧ (∀ M_8 : Mem, M_8 = wL M_3 60 0 ((0 : Int32).toNatClampNeg) r_5.toInt64 → (Q 0 M_8))))) (fun (k : Nat) (M_2 : Mem) => (k = 1 ∧ (Q 1 M_2)) ∨ (k = 2 ∧ (Q 2 M_2)))))
def w_X5_isPiece (M : Mem) (a0 : Int32) (Q : Int32 → Mem → Prop) : Prop :=
  ((a0 < 0 → (Q 0 M)) ∧ (¬ a0 < 0 → (((12 : Int32) ≤ a0 → (Q 0 M)) ∧ (¬ (12 : Int32) ≤ a0 → (Q 1 M)))))
def b_X5_setPriority_26 (Q : Int32 → Mem → Prop) (M : Mem) (x1 : Int32) (x2 : Int32) (s0 : Int32) : Prop :=
  (mE M 5 0 = true ∧ (w_X5_fits M s0 (fun (r_11 : Int32) (M_9 : Mem) => ((r_11 = 0 → (Q 0 M_9)) ∧ (¬ r_11 = 0 → (mE M_9 5 0 = true ∧ (mF M_9 5 0 2 = true ∧ (mE M_9 32 0 = true ∧ (vp_in x1 12 ∧ (∀ v_17 : Int32, v_17 = (mI M_9 32 0 x1.toNatClampNeg) → (vp_in x1 12 ∧ (∀ M_19 : Mem, M_19 = wI M_9 32 0 x1.toNatClampNeg x2 → (Q v_17 M_19)))))))))))))
def b_X5_setPriority_21 (Q : Int32 → Mem → Prop) (M : Mem) (x1 : Int32) (x2 : Int32) : Prop :=
  (b_X5_setPriority_26 Q M x1 x2 2)
def w_X5_setPriority (M : Mem) (a1 : Int32) (a2 : Int32) (Q : Int32 → Mem → Prop) : Prop :=
  (w_X5_isPiece M a1 (fun (r_4 : Int32) (M_2 : Mem) => ((r_4 = 0 → (b_X5_setPriority_26 Q M_2 a1 a2 1)) ∧ (¬ r_4 = 0 → ((a2 < 0 → (b_X5_setPriority_21 Q M_2 a1 a2)) ∧ (¬ a2 < 0 → ((a2 ≤ 3 → (b_X5_setPriority_26 Q M_2 a1 a2 0)) ∧ (¬ a2 ≤ 3 → (b_X5_setPriority_21 Q M_2 a1 a2)))))))))
def b_X4_setSequence_19 (Q : Int32 → Mem → Prop) (X : Nat → Mem → Prop) (M : Mem) (x2 : Int32) (x3 : Nat) (s0 : Int32) : Prop :=
  (mE M 2 x3 = true ∧ (x2 = 0 ∨ x2 = 1 ∧ (∀ M_9 : Mem, M_9 = wI M 2 x3 5 x2 → (s0 = 0 ∨ s0 = 1 ∧ (Q s0 M_9)))))
def w_X4_setSequence (M : Mem) (a1 : Int32) (a2 : Int32) (Q : Int32 → Mem → Prop) (X : Nat → Mem → Prop) : Prop :=
  (mE M 4 0 = true ∧ (w_X4_known M a1 (fun (r_5 : Nat) (M_3 : Mem) => (mE M_3 2 r_5 = true ∧ (((mI M_3 2 r_5 5) = a2 → (b_X4_setSequence_19 Q X M_3 a2 r_5 0)) ∧ (¬ (mI M_3 2 r_5 5) = a2 → (b_X4_setSequence_19 Q X M_3 a2 r_5 1))))) X))
def b_L_setSequence_16 (Q : Int32 → Mem → Prop) (M : Mem) (s0 : Int64) (s1 : Int32) : Prop :=
  (mE M 60 0 = true ∧ (vp_in s1 1 ∧ (∀ M_9 : Mem, M_9 = wL M 60 0 s1.toNatClampNeg s0 → (Q 0 M_9))))
def w_L_setSequence (M : Mem) (a1 : Int32) (a2 : Int32) (Q : Int32 → Mem → Prop) : Prop :=
  (mE M 4 0 = true ∧ (w_X4_setSequence M a1 a2 (fun (r_5 : Int32) (M_3 : Mem) => ((r_5 = 0 → (b_L_setSequence_16 Q M_3 0 0)) ∧ (¬ r_5 = 0 → (b_L_setSequence_16 Q M_3 1 0)))) (fun (k : Nat) (M_2 : Mem) => (k = 1 ∧ (Q 1 M_2)))))
def b_X5_setSequence_14 (Q : Int32 → Mem → Prop) (M : Mem) (x1 : Int32) (x2 : Int32) (s0 : Int32) : Prop :=
  (mE M 5 0 = true ∧ (w_X5_fits M s0 (fun (r_11 : Int32) (M_9 : Mem) => ((r_11 = 0 → (Q 0 M_9)) ∧ (¬ r_11 = 0 → (mE M_9 5 0 = true ∧ (mF M_9 5 0 7 = true ∧ (mE M_9 37 0 = true ∧ (vp_in x1 6 ∧ (∀ v_17 : Int32, v_17 = (mI M_9 37 0 x1.toNatClampNeg) → (vp_in x1 6 ∧ (x2 = 0 ∨ x2 = 1 ∧ (∀ M_19 : Mem, M_19 = wI M_9 37 0 x1.toNatClampNeg x2 → ((v_17 = x2 → (Q 0 M_19)) ∧ (¬ v_17 = x2 → (Q 1 M_19))))))))))))))))
def w_X5_setSequence (M : Mem) (a1 : Int32) (a2 : Int32) (Q : Int32 → Mem → Prop) : Prop :=
  (mE M 5 0 = true ∧ (w_X5_isPeer M a1 (fun (r_5 : Int32) (M_3 : Mem) => ((r_5 = 0 → (b_X5_setSequence_14 Q M_3 a1 a2 1)) ∧ (¬ r_5 = 0 → (b_X5_setSequence_14 Q M_3 a1 a2 0))))))
def b_X4_setCareful_19 (Q : Int32 → Mem → Prop) (X : Nat → Mem → Prop) (M : Mem) (x2 : Int32) (x3 : Nat) (s0 : Int32) : Prop :=
  (mE M 2 x3 = true ∧ (x2 = 0 ∨ x2 = 1 ∧ (∀ M_9 : Mem, M_9 = wI M 2 x3 6 x2 → (s0 = 0 ∨ s0 = 1 ∧ (Q s0 M_9)))))
def w_X4_setCareful (M : Mem) (a1 : Int32) (a2 : Int32) (Q : Int32 → Mem → Prop) (X : Nat → Mem → Prop) : Prop :=
  (mE M 4 0 = true ∧ (w_X4_known M a1 (fun (r_5 : Nat) (M_3 : Mem) => (mE M_3 2 r_5 = true ∧ (((mI M_3 2 r_5 6) = a2 → (b_X4_setCareful_19 Q X M_3 a2 r_5 0)) ∧ (¬ (mI M_3 2 r_5 6) = a2 → (b_X4_setCareful_19 Q X M_3 a2 r_5 1))))) X))
def b_L_setCareful_16 (Q : Int32 → Mem → Prop) (M : Mem) (s0 : Int64) (s1 : Int32) : Prop :=
  (mE M 60 0 = true ∧ (vp_in s1 1 ∧ (∀ M_9 : Mem, M_9 = wL M 60 0 s1.toNatClampNeg s0 → (Q 0 M_9))))
def w_L_setCareful (M : Mem) (a1 : Int32) (a2 : Int32) (Q : Int32 → Mem → Prop) : Prop :=
  (mE M 4 0 = true ∧ (w_X4_setCareful M a1 a2 (fun (r_5 : Int32) (M_3 : Mem) => ((r_5 = 0 → (b_L_setCareful_16 Q M_3 0 0)) ∧ (¬ r_5 = 0 → (b_L_setCareful_16 Q M_3 1 0)))) (fun (k : Nat) (M_2 : Mem) => (k = 1 ∧ (Q 1 M_2)))))
def b_X5_setCareful_14 (Q : Int32 → Mem → Prop) (M : Mem) (x1 : Int32) (x2 : Int32) (s0 : Int32) : Prop :=
  (mE M 5 0 = true ∧ (w_X5_fits M s0 (fun (r_11 : Int32) (M_9 : Mem) => ((r_11 = 0 → (Q 0 M_9)) ∧ (¬ r_11 = 0 → (mE M_9 5 0 = true ∧ (mF M_9 5 0 6 = true ∧ (mE M_9 36 0 = true ∧ (vp_in x1 6 ∧ (∀ v_17 : Int32, v_17 = (mI M_9 36 0 x1.toNatClampNeg) → (vp_in x1 6 ∧ (x2 = 0 ∨ x2 = 1 ∧ (∀ M_19 : Mem, M_19 = wI M_9 36 0 x1.toNatClampNeg x2 → ((v_17 = x2 → (Q 0 M_19)) ∧ (¬ v_17 = x2 → (Q 1 M_19))))))))))))))))
def w_X5_setCareful (M : Mem) (a1 : Int32) (a2 : Int32) (Q : Int32 → Mem → Prop) : Prop :=
  (mE M 5 0 = true ∧ (w_X5_isPeer M a1 (fun (r_5 : Int32) (M_3 : Mem) => ((r_5 = 0 → (b_X5_setCareful_14 Q M_3 a1 a2 1)) ∧ (¬ r_5 = 0 → (b_X5_setCareful_14 Q M_3 a1 a2 0))))))
def w_X4_isIn (M : Mem) (a0 : Int64) (a2 : Int32) (Q : Int32 → Mem → Prop) : Prop :=
  (((lg_cmp ((a0 >>> (a2.toInt64 &&& 63)) &&& 1) 0) = 0 → (Q 0 M)) ∧ (¬ (lg_cmp ((a0 >>> (a2.toInt64 &&& 63)) &&& 1) 0) = 0 → (Q 1 M)))
def b_X4_spoil_30 (Q : Int32 → Mem → Prop) (X : Nat → Mem → Prop) (M : Mem) (x2 : Int32) (x4 : Nat) (s0 : Int32) : Prop :=
  ((s0 = 0 → (s0 = 0 ∨ s0 = 1 ∧ (Q s0 M))) ∧ (¬ s0 = 0 → (mE M 2 x4 = true ∧ (∀ M_19 : Mem, M_19 = wI M 2 x4 4 ((mI M 2 x4 4) ^^^ (1 <<< (x2 &&& 31))) → (s0 = 0 ∨ s0 = 1 ∧ (Q s0 M_19))))))
def w_X4_spoil (M : Mem) (a1 : Int32) (a2 : Int32) (a3 : Int32) (Q : Int32 → Mem → Prop) (X : Nat → Mem → Prop) : Prop :=
  (mE M 4 0 = true ∧ (w_X4_known M a1 (fun (r_5 : Nat) (M_3 : Mem) => (w_X4_checkPiece M_3 a2 (fun (M_7 : Mem) => (mE M_7 2 r_5 = true ∧ (w_X4_isIn M_7 ((mI M_7 2 r_5 4).toInt64) a2 (fun (r_14 : Int32) (M_12 : Mem) => ((r_14 = a3 → (b_X4_spoil_30 Q X M_12 a2 r_5 0)) ∧ (¬ r_14 = a3 → (b_X4_spoil_30 Q X M_12 a2 r_5 1))))))) X)) X))
def b_L_spoil_18 (Q : Int32 → Mem → Prop) (M : Mem) (s0 : Int64) (s1 : Int32) : Prop :=
  (mE M 60 0 = true ∧ (vp_in s1 1 ∧ (∀ M_9 : Mem, M_9 = wL M 60 0 s1.toNatClampNeg s0 → (Q 0 M_9))))
def w_L_spoil (M : Mem) (a1 : Int32) (a2 : Int32) (a3 : Int32) (Q : Int32 → Mem → Prop) : Prop :=
  (mE M 4 0 = true ∧ (w_X4_spoil M a1 a2 a3 (fun (r_5 : Int32) (M_3 : Mem) => ((r_5 = 0 → (b_L_spoil_18 Q M_3 0 0)) ∧ (¬ r_5 = 0 → (b_L_spoil_18 Q M_3 1 0)))) (fun (k : Nat) (M_2 : Mem) => (k = 1 ∧ (Q 1 M_2)))))
def w_X5_has (M : Mem) (a0 : Int32) (a1 : Int32) (Q : Int32 → Mem → Prop) : Prop :=
  ((((a0 >>> (a1 &&& 31)) &&& 1) = 1 → (Q 1 M)) ∧ (¬ ((a0 >>> (a1 &&& 31)) &&& 1) = 1 → (Q 0 M)))
def b_X5_spoil_69 (Q : Int32 → Mem → Prop) (M : Mem) (x3 : Int32) (x4 : Int32) (s0 : Int32) (s1 : Int32) (s2 : Int32) : Prop :=
  (mE M 38 0 = true ∧ (vp_in s2 6 ∧ (∀ M_28 : Mem, M_28 = wI M 38 0 s2.toNatClampNeg (s1 ||| s0) → ((x4 = x3 → (Q 0 M_28)) ∧ (¬ x4 = x3 → (Q 1 M_28))))))
def b_X5_spoil_21 (Q : Int32 → Mem → Prop) (M : Mem) (x1 : Int32) (x2 : Int32) (x3 : Int32) (s0 : Int32) : Prop :=
  (mE M 5 0 = true ∧ (w_X5_fits M s0 (fun (r_11 : Int32) (M_9 : Mem) => ((r_11 = 0 → (Q 0 M_9)) ∧ (¬ r_11 = 0 → (mE M_9 5 0 = true ∧ (mF M_9 5 0 8 = true ∧ (mE M_9 38 0 = true ∧ (vp_in x1 6 ∧ (w_X5_has M_9 (mI M_9 38 0 x1.toNatClampNeg) x2 (fun (r_20 : Int32) (M_18 : Mem) => (mE M_18 5 0 = true ∧ (mF M_18 5 0 8 = true ∧ (mE M_18 38 0 = true ∧ (vp_in x1 6 ∧ ((x3 = 0 → (b_X5_spoil_69 Q M_18 x3 r_20 0 ((mI M_18 38 0 x1.toNatClampNeg) &&& ((1 <<< (x2 &&& 31)) ^^^ (-1))) x1)) ∧ (¬ x3 = 0 → (b_X5_spoil_69 Q M_18 x3 r_20 (1 <<< (x2 &&& 31)) ((mI M_18 38 0 x1.toNatClampNeg) &&& ((1 <<< (x2 &&& 31)) ^^^ (-1))) x1))))))))))))))))))
def b_X5_spoil_20 (Q : Int32 → Mem → Prop) (M : Mem) (x1 : Int32) (x2 : Int32) (x3 : Int32) : Prop :=
  (b_X5_spoil_21 Q M x1 x2 x3 1)
def w_X5_spoil (M : Mem) (a1 : Int32) (a2 : Int32) (a3 : Int32) (Q : Int32 → Mem → Prop) : Prop :=
  (mE M 5 0 = true ∧ (w_X5_isPeer M a1 (fun (r_5 : Int32) (M_3 : Mem) => ((r_5 = 0 → (b_X5_spoil_20 Q M_3 a1 a2 a3)) ∧ (¬ r_5 = 0 → (w_X5_isPiece M_3 a2 (fun (r_33 : Int32) (M_31 : Mem) => ((r_33 = 0 → (b_X5_spoil_20 Q M_31 a1 a2 a3)) ∧ (¬ r_33 = 0 → (b_X5_spoil_21 Q M_31 a1 a2 a3 0))))))))))
def b_X4_countHolders_51 (k14 : Mem → Int32 → Int32 → Int32 → Int32 → Prop) (Q : Int32 → Mem → Prop) (M : Mem) (x1 : Int32) (x2 : Int32) (x4 : Int32) (x5 : Int32) : Prop :=
  (∀ v_16 : Int32, v_16 = x5 + 1 → (k14 M x1 x2 x4 v_16))
def b_X4_countHolders_14 (Q : Int32 → Mem → Prop) (k14 : Mem → Int32 → Int32 → Int32 → Int32 → Prop) (M : Mem) (x1 : Int32) (x2 : Int32) (x4 : Int32) (x5 : Int32) : Prop :=
  ((x4 ≤ x5 → (Q x2 M)) ∧ (¬ x4 ≤ x5 → (mE M 10 0 = true ∧ (vp_in x5 6 ∧ ((mF M 10 0 x5.toNatClampNeg = true → (mE M 2 x5.toNatClampNeg = true ∧ (mF M 2 x5.toNatClampNeg 1 = true ∧ (mE M 3 x5.toNatClampNeg = true ∧ (w_X4_isIn M ((mI M 3 x5.toNatClampNeg 0).toInt64) x1 (fun (r_14 : Int32) (M_12 : Mem) => ((r_14 = 0 → (b_X4_countHolders_51 k14 Q M_12 x1 x2 x4 x5)) ∧ (¬ r_14 = 0 → (∀ v_17 : Int32, v_17 = x2 + 1 → (b_X4_countHolders_51 k14 Q M_12 x1 v_17 x4 x5)))))))))) ∧ (mF M 10 0 x5.toNatClampNeg = false → (b_X4_countHolders_51 k14 Q M x1 x2 x4 x5)))))))
def l_X4_countHolders_14 (Q : Int32 → Mem → Prop) (n : Nat) : Mem → Int32 → Int32 → Int32 → Int32 → Prop :=
  Nat.rec (motive := fun _ => Mem → Int32 → Int32 → Int32 → Int32 → Prop) (fun _ _ _ _ _ => False) (fun _ k => b_X4_countHolders_14 Q k) n
def w_X4_countHolders (M : Mem) (a1 : Int32) (Q : Int32 → Mem → Prop) : Prop :=
  (mE M 4 0 = true ∧ (mF M 4 0 0 = true ∧ (mE M 10 0 = true ∧ (∃ n : Nat, l_X4_countHolders_14 Q n M a1 0 6 0))))
def w_X0_clear (M : Mem) (t : Nat) (Q : Mem → Prop) : Prop :=
  (mE M 0 t = true ∧ (∀ M_2 : Mem, M_2 = wI M 0 t 2 0 → (∀ M_3 : Mem, M_3 = wL M_2 0 t 3 0 → (Q M_3))))
def b_X4_wantedPieces_28 (k4 : Mem → Int32 → Int32 → Prop) (Q : Int32 → Mem → Prop) (M : Mem) (x1 : Int32) (x2 : Int32) : Prop :=
  (∀ v_7 : Int32, v_7 = x2 + 1 → (k4 M x1 v_7))
def b_X4_wantedPieces_4 (Q : Int32 → Mem → Prop) (k4 : Mem → Int32 → Int32 → Prop) (M : Mem) (x1 : Int32) (x2 : Int32) : Prop :=
  (mE M 4 0 = true ∧ (mF M 4 0 1 = true ∧ (mE M 11 0 = true ∧ (((12 : Int32) ≤ x2 → (Q x1 M)) ∧ (¬ (12 : Int32) ≤ x2 → (vp_in x2 12 ∧ (((mI M 11 0 x2.toNatClampNeg) ≤ 0 → (b_X4_wantedPieces_28 k4 Q M x1 x2)) ∧ (¬ (mI M 11 0 x2.toNatClampNeg) ≤ 0 → (∀ v_8 : Int32, v_8 = (x1 ||| (1 <<< (x2 &&& 31))) → (b_X4_wantedPieces_28 k4 Q M v_8 x2))))))))))
def l_X4_wantedPieces_4 (Q : Int32 → Mem → Prop) (n : Nat) : Mem → Int32 → Int32 → Prop :=
  Nat.rec (motive := fun _ => Mem → Int32 → Int32 → Prop) (fun _ _ _ => False) (fun _ k => b_X4_wantedPieces_4 Q k) n
def w_X4_wantedPieces (M : Mem) (Q : Int32 → Mem → Prop) : Prop :=
  (∃ n : Nat, l_X4_wantedPieces_4 Q n M 0 0)
def b_X4_findRarest_61 (k8 : Mem → Int32 → Int32 → Int32 → Int32 → Int32 → Prop) (Q : Int32 → Mem → Prop) (M : Mem) (x1 : Int32) (x2 : Int32) (x3 : Int32) (x4 : Int32) (x5 : Int32) : Prop :=
  (∀ v_8 : Int32, v_8 = x5 + 1 → (k8 M x1 x2 x3 x4 v_8))
def b_X4_findRarest_54 (k8 : Mem → Int32 → Int32 → Int32 → Int32 → Int32 → Prop) (Q : Int32 → Mem → Prop) (M : Mem) (x1 : Int32) (x2 : Int32) (x5 : Int32) (x6 : Int32) (x7 : Int32) : Prop :=
  (b_X4_findRarest_61 k8 Q M x1 x2 x6 x7 x5)
def b_X4_findRarest_8 (Q : Int32 → Mem → Prop) (k8 : Mem → Int32 → Int32 → Int32 → Int32 → Int32 → Prop) (M : Mem) (x1 : Int32) (x2 : Int32) (x3 : Int32) (x4 : Int32) (x5 : Int32) : Prop :=
  (((12 : Int32) ≤ x5 → (Q x3 M)) ∧ (¬ (12 : Int32) ≤ x5 → (∀ v_2 : Int32, v_2 = ((x2 + x5) - (x2 + x5) / 12 * 12) → (w_X4_isIn M x1.toInt64 v_2 (fun (r_6 : Int32) (M_4 : Mem) => ((r_6 = 0 → (b_X4_findRarest_61 k8 Q M_4 x1 x2 x3 x4 x5)) ∧ (¬ r_6 = 0 → (mE M_4 4 0 = true ∧ (w_X4_countHolders M_4 v_2 (fun (r_13 : Int32) (M_11 : Mem) => ((x3 = (-1) → (b_X4_findRarest_54 k8 Q M_11 x1 x2 x5 v_2 r_13)) ∧ (¬ x3 = (-1) → ((x4 ≤ r_13 → (b_X4_findRarest_61 k8 Q M_11 x1 x2 x3 x4 x5)) ∧ (¬ x4 ≤ r_13 → (b_X4_findRarest_54 k8 Q M_11 x1 x2 x5 v_2 r_13)))))))))))))))
def l_X4_findRarest_8 (Q : Int32 → Mem → Prop) (n : Nat) : Mem → Int32 → Int32 → Int32 → Int32 → Int32 → Prop :=
  Nat.rec (motive := fun _ => Mem → Int32 → Int32 → Int32 → Int32 → Int32 → Prop) (fun _ _ _ _ _ _ => False) (fun _ k => b_X4_findRarest_8 Q k) n
def w_X4_findRarest (M : Mem) (a1 : Int32) (a2 : Int32) (Q : Int32 → Mem → Prop) : Prop :=
  (∃ n : Nat, l_X4_findRarest_8 Q n M a1 a2 (-1) 0 0)
def w_X4_findShown (M : Mem) (a1 : Nat) (a2 : Nat) (Q : Int32 → Mem → Prop) : Prop :=
  (mE M 2 a1 = true ∧ (mE M 2 a2 = true ∧ ((a1 = a2 → (Q 0 M)) ∧ (¬ a1 = a2 → (((mI M 2 a1 6) = 0 → (mF M 2 a1 1 = true ∧ (mE M 3 a1 = true ∧ (Q (mI M 3 a1 0) M)))) ∧ (¬ (mI M 2 a1 6) = 0 → (mF M 2 a1 1 = true ∧ (mE M 3 a1 = true ∧ (mF M 2 a2 1 = true ∧ (mE M 3 a2 = true ∧ (mE M 4 0 = true ∧ (w_X4_findRarest M ((mI M 3 a1 0) &&& ((mI M 3 a2 0) ^^^ (-1))) (mI M 2 a2 0) (fun (r_13 : Int32) (M_11 : Mem) => ((r_13 = (-1) → (Q 0 M_11)) ∧ (¬ r_13 = (-1) → (Q (1 <<< (r_13 &&& 31)) M_11))))))))))))))))
def b_X4_findInterested_95 (k21 : Mem → Nat → Int32 → Int32 → Int32 → Int32 → Prop) (Q : Int32 → Mem → Prop) (M : Mem) (x1 : Nat) (x2 : Int32) (x3 : Int32) (x5 : Int32) (x6 : Int32) : Prop :=
  (∀ v_16 : Int32, v_16 = x6 + 1 → (k21 M x1 x2 x3 x5 v_16))
def b_X4_findInterested_21 (Q : Int32 → Mem → Prop) (k21 : Mem → Nat → Int32 → Int32 → Int32 → Int32 → Prop) (M : Mem) (x1 : Nat) (x2 : Int32) (x3 : Int32) (x5 : Int32) (x6 : Int32) : Prop :=
  ((x5 ≤ x6 → (Q x3 M)) ∧ (¬ x5 ≤ x6 → (mE M 10 0 = true ∧ (vp_in x6 6 ∧ ((mF M 10 0 x6.toNatClampNeg = true → (mE M 2 x6.toNatClampNeg = true ∧ (mE M 2 x1 = true ∧ ((x6.toNatClampNeg = x1 → (b_X4_findInterested_95 k21 Q M x1 x2 x3 x5 x6)) ∧ (¬ x6.toNatClampNeg = x1 → (w_X4_isIn M ((mI M 2 x6.toNatClampNeg 10).toInt64) (mI M 2 x1 0) (fun (r_20 : Int32) (M_18 : Mem) => ((r_20 = 0 → (mE M_18 4 0 = true ∧ (w_X4_findShown M_18 x1 x6.toNatClampNeg (fun (r_26 : Int32) (M_24 : Mem) => (mE M_24 2 x6.toNatClampNeg = true ∧ (mF M_24 2 x6.toNatClampNeg 1 = true ∧ (mE M_24 3 x6.toNatClampNeg = true ∧ ((((r_26 &&& x2) &&& ((mI M_24 3 x6.toNatClampNeg 0) ^^^ (-1))) = 0 → (b_X4_findInterested_95 k21 Q M_24 x1 x2 x3 x5 x6)) ∧ (¬ ((r_26 &&& x2) &&& ((mI M_24 3 x6.toNatClampNeg 0) ^^^ (-1))) = 0 → (∀ v_31 : Int32, v_31 = (x3 ||| (1 <<< ((mI M_24 2 x6.toNatClampNeg 0) &&& 31))) → (b_X4_findInterested_95 k21 Q M_24 x1 x2 v_31 x5 x6))))))))))) ∧ (¬ r_20 = 0 → (b_X4_findInterested_95 k21 Q M_18 x1 x2 x3 x5 x6)))))))))) ∧ (mF M 10 0 x6.toNatClampNeg = false → (b_X4_findInterested_95 k21 Q M x1 x2 x3 x5 x6)))))))
def l_X4_findInterested_21 (Q : Int32 → Mem → Prop) (n : Nat) : Mem → Nat → Int32 → Int32 → Int32 → Int32 → Prop :=
  Nat.rec (motive := fun _ => Mem → Nat → Int32 → Int32 → Int32 → Int32 → Prop) (fun _ _ _ _ _ _ => False) (fun _ k => b_X4_findInterested_21 Q k) n
def w_X4_findInterested (M : Mem) (a1 : Nat) (Q : Int32 → Mem → Prop) : Prop :=
  (mE M 4 0 = true ∧ (w_X4_wantedPieces M (fun (r_5 : Int32) (M_3 : Mem) => (mE M_3 4 0 = true ∧ (mF M_3 4 0 0 = true ∧ (mE M_3 10 0 = true ∧ (∃ n : Nat, l_X4_findInterested_21 Q n M_3 a1 r_5 0 6 0)))))))
def b_X4_findBestGiver_54 (k7 : Mem → Nat → Int32 → Int32 → Int32 → Int32 → Prop) (Q : Int32 → Mem → Prop) (M : Mem) (x0 : Nat) (x1 : Int32) (x2 : Int32) (x3 : Int32) (x4 : Int32) : Prop :=
  (∀ v_10 : Int32, v_10 = x4 + 1 → (k7 M x0 x1 x2 x3 v_10))
def b_X4_findBestGiver_43 (k7 : Mem → Nat → Int32 → Int32 → Int32 → Int32 → Prop) (Q : Int32 → Mem → Prop) (M : Mem) (x0 : Nat) (x1 : Int32) (x4 : Int32) : Prop :=
  (mE M 2 x0 = true ∧ (mF M 2 x0 8 = true ∧ (mE M 24 x0 = true ∧ (vp_in x4 6 ∧ (∀ v_16 : Int32, v_16 = (mI M 24 x0 x4.toNatClampNeg) → (b_X4_findBestGiver_54 k7 Q M x0 x1 x4 v_16 x4))))))
def b_X4_findBestGiver_7 (Q : Int32 → Mem → Prop) (k7 : Mem → Nat → Int32 → Int32 → Int32 → Int32 → Prop) (M : Mem) (x0 : Nat) (x1 : Int32) (x2 : Int32) (x3 : Int32) (x4 : Int32) : Prop :=
  (mE M 2 x0 = true ∧ (mF M 2 x0 8 = true ∧ (mE M 24 x0 = true ∧ (((6 : Int32) ≤ x4 → (Q x2 M)) ∧ (¬ (6 : Int32) ≤ x4 → (w_X4_isIn M x1.toInt64 x4 (fun (r_8 : Int32) (M_6 : Mem) => ((r_8 = 0 → (b_X4_findBestGiver_54 k7 Q M_6 x0 x1 x2 x3 x4)) ∧ (¬ r_8 = 0 → ((x2 = (-1) → (b_X4_findBestGiver_43 k7 Q M_6 x0 x1 x4)) ∧ (¬ x2 = (-1) → (mE M_6 2 x0 = true ∧ (mF M_6 2 x0 8 = true ∧ (mE M_6 24 x0 = true ∧ (vp_in x4 6 ∧ (((mI M_6 24 x0 x4.toNatClampNeg) ≤ x3 → (b_X4_findBestGiver_54 k7 Q M_6 x0 x1 x2 x3 x4)) ∧ (¬ (mI M_6 24 x0 x4.toNatClampNeg) ≤ x3 → (b_X4_findBestGiver_43 k7 Q M_6 x0 x1 x4))))))))))))))))))
def l_X4_findBestGiver_7 (Q : Int32 → Mem → Prop) (n : Nat) : Mem → Nat → Int32 → Int32 → Int32 → Int32 → Prop :=
  Nat.rec (motive := fun _ => Mem → Nat → Int32 → Int32 → Int32 → Int32 → Prop) (fun _ _ _ _ _ _ => False) (fun _ k => b_X4_findBestGiver_7 Q k) n
def w_X4_findBestGiver (M : Mem) (a0 : Nat) (a1 : Int32) (Q : Int32 → Mem → Prop) : Prop :=
  (∃ n : Nat, l_X4_findBestGiver_7 Q n M a0 a1 (-1) 0 0)
def w_X4_single (M : Mem) (a0 : Int32) (Q : Int32 → Mem → Prop) : Prop :=
  ((a0 = (-1) → (Q 0 M)) ∧ (¬ a0 = (-1) → (Q (1 <<< (a0 &&& 31)) M)))
def b_X4_findNextInTurn_2 (Q : Int32 → Mem → Prop) (k2 : Mem → Int32 → Int32 → Prop) (M : Mem) (x1 : Int32) (x2 : Int32) : Prop :=
  (((6 : Int32) ≤ x2 → (Q (-1) M)) ∧ (¬ (6 : Int32) ≤ x2 → (mE M 4 0 = true ∧ (∀ v_3 : Int32, v_3 = (((mI M 4 0 4) + x2) - ((mI M 4 0 4) + x2) / 6 * 6) → (w_X4_isIn M x1.toInt64 v_3 (fun (r_7 : Int32) (M_5 : Mem) => ((r_7 = 0 → (∀ v_9 : Int32, v_9 = x2 + 1 → (k2 M_5 x1 v_9))) ∧ (¬ r_7 = 0 → (Q v_3 M_5)))))))))
def l_X4_findNextInTurn_2 (Q : Int32 → Mem → Prop) (n : Nat) : Mem → Int32 → Int32 → Prop :=
  Nat.rec (motive := fun _ => Mem → Int32 → Int32 → Prop) (fun _ _ _ => False) (fun _ k => b_X4_findNextInTurn_2 Q k) n
def w_X4_findNextInTurn (M : Mem) (a1 : Int32) (Q : Int32 → Mem → Prop) : Prop :=
  (∃ n : Nat, l_X4_findNextInTurn_2 Q n M a1 0)
def b_X4_findChosen_11 (Q : Int32 → Mem → Prop) (k11 : Mem → Nat → Int32 → Int32 → Int32 → Prop) (M : Mem) (x1 : Nat) (x2 : Int32) (x3 : Int32) (x4 : Int32) : Prop :=
  (((2 : Int32) ≤ x4 → (mE M 4 0 = true ∧ (w_X4_findNextInTurn M x2 (fun (r_11 : Int32) (M_9 : Mem) => (w_X4_single M_9 r_11 (fun (r_15 : Int32) (M_13 : Mem) => (Q (x3 ||| r_15) M_13))))))) ∧ (¬ (2 : Int32) ≤ x4 → (w_X4_findBestGiver M x1 x2 (fun (r_19 : Int32) (M_17 : Mem) => (w_X4_single M_17 r_19 (fun (r_23 : Int32) (M_21 : Mem) => (∀ v_24 : Int32, v_24 = (x3 ||| r_23) → (w_X4_single M_21 r_19 (fun (r_28 : Int32) (M_26 : Mem) => (∀ v_29 : Int32, v_29 = (x2 &&& (r_28 ^^^ (-1))) → (∀ v_30 : Int32, v_30 = x4 + 1 → (k11 M_26 x1 v_29 v_24 v_30))))))))))))
def l_X4_findChosen_11 (Q : Int32 → Mem → Prop) (n : Nat) : Mem → Nat → Int32 → Int32 → Int32 → Prop :=
  Nat.rec (motive := fun _ => Mem → Nat → Int32 → Int32 → Int32 → Prop) (fun _ _ _ _ _ => False) (fun _ k => b_X4_findChosen_11 Q k) n
def w_X4_findChosen (M : Mem) (a1 : Nat) (Q : Int32 → Mem → Prop) : Prop :=
  (mE M 4 0 = true ∧ (w_X4_findInterested M a1 (fun (r_5 : Int32) (M_3 : Mem) => (∃ n : Nat, l_X4_findChosen_11 Q n M_3 a1 r_5 0 0))))
def b_X4_beginShowing_45 (k11 : Mem → Nat → Int32 → Int32 → Prop) (Q : Mem → Prop) (M : Mem) (x1 : Nat) (x3 : Int32) (x4 : Int32) : Prop :=
  (∀ v_19 : Int32, v_19 = x4 + 1 → (k11 M x1 x3 v_19))
def b_X4_beginShowing_11 (Q : Mem → Prop) (k11 : Mem → Nat → Int32 → Int32 → Prop) (M : Mem) (x1 : Nat) (x3 : Int32) (x4 : Int32) : Prop :=
  ((x3 ≤ x4 → (Q M)) ∧ (¬ x3 ≤ x4 → (mE M 10 0 = true ∧ (vp_in x4 6 ∧ ((mF M 10 0 x4.toNatClampNeg = true → (mE M 2 x1 = true ∧ (mF M 2 x1 12 = true ∧ (mE M 2 x4.toNatClampNeg = true ∧ (mE M 4 0 = true ∧ (w_X4_findShown M x1 x4.toNatClampNeg (fun (r_15 : Int32) (M_13 : Mem) => (mE M_13 26 x1 = true ∧ (vp_in (mI M 2 x4.toNatClampNeg 0) 6 ∧ (∀ M_18 : Mem, M_18 = wI M_13 26 x1 ((mI M 2 x4.toNatClampNeg 0).toNatClampNeg) r_15 → (b_X4_beginShowing_45 k11 Q M_18 x1 x3 x4))))))))))) ∧ (mF M 10 0 x4.toNatClampNeg = false → (b_X4_beginShowing_45 k11 Q M x1 x3 x4)))))))
def l_X4_beginShowing_11 (Q : Mem → Prop) (n : Nat) : Mem → Nat → Int32 → Int32 → Prop :=
  Nat.rec (motive := fun _ => Mem → Nat → Int32 → Int32 → Prop) (fun _ _ _ _ => False) (fun _ k => b_X4_beginShowing_11 Q k) n
def w_X4_beginShowing (M : Mem) (a1 : Nat) (Q : Mem → Prop) : Prop :=
  (mE M 4 0 = true ∧ (mF M 4 0 0 = true ∧ (mE M 10 0 = true ∧ (∃ n : Nat, l_X4_beginShowing_11 Q n M a1 6 0))))
def b_X4_begin_78 (k38 : Mem → Int32 → Int32 → Prop) (Q : Mem → Prop) (M : Mem) (x2 : Int32) (x3 : Int32) : Prop :=
  (∀ v_30 : Int32, v_30 = x3 + 1 → (k38 M x2 v_30))
def b_X4_begin_38 (Q : Mem → Prop) (k38 : Mem → Int32 → Int32 → Prop) (M : Mem) (x2 : Int32) (x3 : Int32) : Prop :=
  ((x2 ≤ x3 → (Q M)) ∧ (¬ x2 ≤ x3 → (mE M 10 0 = true ∧ (vp_in x3 6 ∧ ((mF M 10 0 x3.toNatClampNeg = true → (mE M 2 x3.toNatClampNeg = true ∧ (mF M 2 x3.toNatClampNeg 3 = true ∧ (mE M 0 x3.toNatClampNeg = true ∧ (w_X0_clear M x3.toNatClampNeg (fun (M_15 : Mem) => (mE M_15 4 0 = true ∧ (w_X4_findChosen M_15 x3.toNatClampNeg (fun (r_22 : Int32) (M_20 : Mem) => (mE M_20 2 x3.toNatClampNeg = true ∧ (∀ M_24 : Mem, M_24 = wI M_20 2 x3.toNatClampNeg 13 r_22 → (mE M_24 4 0 = true ∧ (w_X4_beginShowing M_24 x3.toNatClampNeg (fun (M_27 : Mem) => (b_X4_begin_78 k38 Q M_27 x2 x3))))))))))))))) ∧ (mF M 10 0 x3.toNatClampNeg = false → (b_X4_begin_78 k38 Q M x2 x3)))))))
def l_X4_begin_38 (Q : Mem → Prop) (n : Nat) : Mem → Int32 → Int32 → Prop :=
  Nat.rec (motive := fun _ => Mem → Int32 → Int32 → Prop) (fun _ _ _ => False) (fun _ k => b_X4_begin_38 Q k) n
def b_X4_begin_2 (Q : Mem → Prop) (k2 : Mem → Int32 → Prop) (M : Mem) (x1 : Int32) : Prop :=
  (mE M 4 0 = true ∧ (mF M 4 0 2 = true ∧ (mE M 12 0 = true ∧ (((12 : Int32) ≤ x1 → (mF M 4 0 0 = true ∧ (mE M 10 0 = true ∧ (∃ n : Nat, l_X4_begin_38 Q n M 6 0)))) ∧ (¬ (12 : Int32) ≤ x1 → (w_X4_countHolders M x1 (fun (r_34 : Int32) (M_32 : Mem) => (mE M_32 12 0 = true ∧ (vp_in x1 12 ∧ (∀ M_37 : Mem, M_37 = wI M_32 12 0 x1.toNatClampNeg r_34 → (∀ v_38 : Int32, v_38 = x1 + 1 → (k2 M_37 v_38))))))))))))
def l_X4_begin_2 (Q : Mem → Prop) (n : Nat) : Mem → Int32 → Prop :=
  Nat.rec (motive := fun _ => Mem → Int32 → Prop) (fun _ _ => False) (fun _ k => b_X4_begin_2 Q k) n
def w_X4_begin (M : Mem) (Q : Mem → Prop) : Prop :=
  (∃ n : Nat, l_X4_begin_2 Q n M 0)
def w_X4_blocksOfPiece (M : Mem) (a0 : Int32) (Q : Int64 → Mem → Prop) : Prop :=
  (Q (15 <<< ((a0 * 4).toInt64 &&& 63)) M)
def b_X4_blocksOf_26 (k4 : Mem → Int32 → Int64 → Int32 → Prop) (Q : Int64 → Mem → Prop) (M : Mem) (x0 : Int32) (x1 : Int64) (x3 : Int32) : Prop :=
  (∀ v_7 : Int32, v_7 = x3 + 1 → (k4 M x0 x1 v_7))
def b_X4_blocksOf_4 (Q : Int64 → Mem → Prop) (k4 : Mem → Int32 → Int64 → Int32 → Prop) (M : Mem) (x0 : Int32) (x1 : Int64) (x3 : Int32) : Prop :=
  (((12 : Int32) ≤ x3 → (Q x1 M)) ∧ (¬ (12 : Int32) ≤ x3 → (w_X4_isIn M x0.toInt64 x3 (fun (r_5 : Int32) (M_3 : Mem) => ((r_5 = 0 → (b_X4_blocksOf_26 k4 Q M_3 x0 x1 x3)) ∧ (¬ r_5 = 0 → (w_X4_blocksOfPiece M_3 x3 (fun (r_11 : Int64) (M_9 : Mem) => (∀ v_12 : Int64, v_12 = (x1 ||| r_11) → (b_X4_blocksOf_26 k4 Q M_9 x0 v_12 x3))))))))))
def l_X4_blocksOf_4 (Q : Int64 → Mem → Prop) (n : Nat) : Mem → Int32 → Int64 → Int32 → Prop :=
  Nat.rec (motive := fun _ => Mem → Int32 → Int64 → Int32 → Prop) (fun _ _ _ _ => False) (fun _ k => b_X4_blocksOf_4 Q k) n
def w_X4_blocksOf (M : Mem) (a0 : Int32) (Q : Int64 → Mem → Prop) : Prop :=
  (∃ n : Nat, l_X4_blocksOf_4 Q n M a0 0 0)
def w_X4_isBegun (M : Mem) (a0 : Nat) (a1 : Int32) (Q : Int32 → Mem → Prop) : Prop :=
  (mE M 2 a0 = true ∧ (mF M 2 a0 1 = true ∧ (mE M 3 a0 = true ∧ (mF M 2 a0 3 = true ∧ (mE M 0 a0 = true ∧ (w_X4_blocksOfPiece M a1 (fun (r_9 : Int64) (M_7 : Mem) => (((lg_cmp (((mL M 3 a0 1) ||| (mL M 0 a0 3)) &&& r_9) 0) = 0 → (Q 0 M_7)) ∧ (¬ (lg_cmp (((mL M 3 a0 1) ||| (mL M 0 a0 3)) &&& r_9) 0) = 0 → (Q 1 M_7))))))))))
def b_X4_isBetter_99 (Q : Int32 → Mem → Prop) (M : Mem) (x2 : Int32) (x3 : Int32) : Prop :=
  ((x3 ≤ x2 → (Q 0 M)) ∧ (¬ x3 ≤ x2 → (Q 1 M)))
def w_X4_isBetter (M : Mem) (a1 : Nat) (a2 : Int32) (a3 : Int32) (Q : Int32 → Mem → Prop) : Prop :=
  (w_X4_isBegun M a1 a2 (fun (r_4 : Int32) (M_2 : Mem) => (w_X4_isBegun M_2 a1 a3 (fun (r_8 : Int32) (M_6 : Mem) => ((r_4 = r_8 → (mE M_6 4 0 = true ∧ (mF M_6 4 0 1 = true ∧ (mE M_6 11 0 = true ∧ (vp_in a2 12 ∧ (vp_in a3 12 ∧ (((mI M_6 11 0 a2.toNatClampNeg) = (mI M_6 11 0 a3.toNatClampNeg) → (mE M_6 2 a1 = true ∧ (((mI M_6 2 a1 5) = 0 → (mF M_6 4 0 2 = true ∧ (mE M_6 12 0 = true ∧ (vp_in a2 12 ∧ (vp_in a3 12 ∧ (((mI M_6 12 0 a2.toNatClampNeg) = (mI M_6 12 0 a3.toNatClampNeg) → (b_X4_isBetter_99 Q M_6 a2 a3)) ∧ (¬ (mI M_6 12 0 a2.toNatClampNeg) = (mI M_6 12 0 a3.toNatClampNeg) → (vp_in a2 12 ∧ (vp_in a3 12 ∧ (((mI M_6 12 0 a3.toNatClampNeg) ≤ (mI M_6 12 0 a2.toNatClampNeg) → (Q 0 M_6)) ∧ (¬ (mI M_6 12 0 a3.toNatClampNeg) ≤ (mI M_6 12 0 a2.toNatClampNeg) → (Q 1 M_6)))))))))))) ∧ (¬ (mI M_6 2 a1 5) = 0 → (b_X4_isBetter_99 Q M_6 a2 a3))))) ∧ (¬ (mI M_6 11 0 a2.toNatClampNeg) = (mI M_6 11 0 a3.toNatClampNeg) → (vp_in a2 12 ∧ (vp_in a3 12 ∧ (((mI M_6 11 0 a2.toNatClampNeg) ≤ (mI M_6 11 0 a3.toNatClampNeg) → (Q 0 M_6)) ∧ (¬ (mI M_6 11 0 a2.toNatClampNeg) ≤ (mI M_6 11 0 a3.toNatClampNeg) → (Q 1 M_6))))))))))))) ∧ (¬ r_4 = r_8 → (r_4 = 0 ∨ r_4 = 1 ∧ (Q r_4 M_6))))))))
def b_X4_findBestPiece_47 (k6 : Mem → Nat → Int64 → Int32 → Int32 → Prop) (Q : Int32 → Mem → Prop) (M : Mem) (x1 : Nat) (x2 : Int64) (x4 : Int32) (x5 : Int32) : Prop :=
  (∀ v_7 : Int32, v_7 = x5 + 1 → (k6 M x1 x2 x4 v_7))
def b_X4_findBestPiece_43 (k6 : Mem → Nat → Int64 → Int32 → Int32 → Prop) (Q : Int32 → Mem → Prop) (M : Mem) (x1 : Nat) (x2 : Int64) (x5 : Int32) : Prop :=
  (b_X4_findBestPiece_47 k6 Q M x1 x2 x5 x5)
def b_X4_findBestPiece_6 (Q : Int32 → Mem → Prop) (k6 : Mem → Nat → Int64 → Int32 → Int32 → Prop) (M : Mem) (x1 : Nat) (x2 : Int64) (x4 : Int32) (x5 : Int32) : Prop :=
  (((12 : Int32) ≤ x5 → (Q x4 M)) ∧ (¬ (12 : Int32) ≤ x5 → (w_X4_blocksOfPiece M x5 (fun (r_5 : Int64) (M_3 : Mem) => (((lg_cmp (x2 &&& r_5) 0) = 0 → (b_X4_findBestPiece_47 k6 Q M_3 x1 x2 x4 x5)) ∧ (¬ (lg_cmp (x2 &&& r_5) 0) = 0 → ((x4 = (-1) → (b_X4_findBestPiece_43 k6 Q M_3 x1 x2 x5)) ∧ (¬ x4 = (-1) → (mE M_3 4 0 = true ∧ (w_X4_isBetter M_3 x1 x5 x4 (fun (r_13 : Int32) (M_11 : Mem) => ((r_13 = 0 → (b_X4_findBestPiece_47 k6 Q M_11 x1 x2 x4 x5)) ∧ (¬ r_13 = 0 → (b_X4_findBestPiece_43 k6 Q M_11 x1 x2 x5))))))))))))))
def l_X4_findBestPiece_6 (Q : Int32 → Mem → Prop) (n : Nat) : Mem → Nat → Int64 → Int32 → Int32 → Prop :=
  Nat.rec (motive := fun _ => Mem → Nat → Int64 → Int32 → Int32 → Prop) (fun _ _ _ _ _ => False) (fun _ k => b_X4_findBestPiece_6 Q k) n
def w_X4_findBestPiece (M : Mem) (a1 : Nat) (a2 : Int64) (Q : Int32 → Mem → Prop) : Prop :=
  (∃ n : Nat, l_X4_findBestPiece_6 Q n M a1 a2 (-1) 0)
def b_X4_findLowest_2 (Q : Int32 → Mem → Prop) (k2 : Mem → Int64 → Int32 → Prop) (M : Mem) (x0 : Int64) (x2 : Int32) : Prop :=
  (((48 : Int32) ≤ x2 → (Q (-1) M)) ∧ (¬ (48 : Int32) ≤ x2 → (w_X4_isIn M x0 x2 (fun (r_5 : Int32) (M_3 : Mem) => ((r_5 = 0 → (∀ v_7 : Int32, v_7 = x2 + 1 → (k2 M_3 x0 v_7))) ∧ (¬ r_5 = 0 → (Q x2 M_3)))))))
def l_X4_findLowest_2 (Q : Int32 → Mem → Prop) (n : Nat) : Mem → Int64 → Int32 → Prop :=
  Nat.rec (motive := fun _ => Mem → Int64 → Int32 → Prop) (fun _ _ _ => False) (fun _ k => b_X4_findLowest_2 Q k) n
def w_X4_findLowest (M : Mem) (a0 : Int64) (Q : Int32 → Mem → Prop) : Prop :=
  (∃ n : Nat, l_X4_findLowest_2 Q n M a0 0)
def w_X0_add (M : Mem) (t : Nat) (a1 : Int32) (a2 : Int32) (Q : Mem → Prop) : Prop :=
  ((a1 = (-1) → (Q M)) ∧ (¬ a1 = (-1) → (mE M 0 t = true ∧ (mF M 0 t 0 = true ∧ (mE M 20 t = true ∧ (((6 : Int32) ≤ (mI M 0 t 2) → (Q M)) ∧ (¬ (6 : Int32) ≤ (mI M 0 t 2) → (vp_in (mI M 0 t 2) 6 ∧ (∀ M_7 : Mem, M_7 = wI M 20 t ((mI M 0 t 2).toNatClampNeg) a1 → (mF M_7 0 t 1 = true ∧ (mE M_7 21 t = true ∧ (vp_in (mI M_7 0 t 2) 6 ∧ (∀ M_11 : Mem, M_11 = wI M_7 21 t ((mI M_7 0 t 2).toNatClampNeg) a2 → (∀ M_12 : Mem, M_12 = wI M_11 0 t 2 ((mI M_11 0 t 2) + 1) → (∀ M_13 : Mem, M_13 = wL M_12 0 t 3 ((mL M_12 0 t 3) ||| (1 <<< (a1.toInt64 &&& 63))) → (Q M_13))))))))))))))))
def w_X4_askOne (M : Mem) (a1 : Nat) (a2 : Nat) (a3 : Int64) (Q : Mem → Prop) : Prop :=
  (mE M 2 a2 = true ∧ (mF M 2 a2 12 = true ∧ (mE M 2 a1 = true ∧ (mE M 26 a2 = true ∧ (vp_in (mI M 2 a1 0) 6 ∧ (w_X4_blocksOf M (mI M 26 a2 ((mI M 2 a1 0).toNatClampNeg)) (fun (r_9 : Int64) (M_7 : Mem) => (∀ v_10 : Int64, v_10 = (a3 &&& r_9) → (mE M_7 2 a1 = true ∧ (mF M_7 2 a1 3 = true ∧ (mE M_7 0 a1 = true ∧ (∀ v_14 : Int64, v_14 = (v_10 &&& ((mL M_7 0 a1 3) ^^^ (-1))) → (((lg_cmp v_14 0) = 0 → (((lg_cmp (a3 &&& ((mL M_7 0 a1 3) ^^^ (-1))) 0) = 0 → (((lg_cmp v_10 0) = 0 → (Q M_7)) ∧ (¬ (lg_cmp v_10 0) = 0 → (w_X4_findLowest M_7 v_10 (fun (r_21 : Int32) (M_19 : Mem) => (mE M_19 2 a2 = true ∧ (mE M_19 0 a1 = true ∧ (w_X0_add M_19 a1 r_21 (mI M_19 2 a2 0) (fun (M_25 : Mem) => (Q M_25)))))))))) ∧ (¬ (lg_cmp (a3 &&& ((mL M_7 0 a1 3) ^^^ (-1))) 0) = 0 → (Q M_7)))) ∧ (¬ (lg_cmp v_14 0) = 0 → (mE M_7 4 0 = true ∧ (w_X4_findBestPiece M_7 a1 v_14 (fun (r_32 : Int32) (M_30 : Mem) => (mE M_30 2 a1 = true ∧ (mF M_30 2 a1 3 = true ∧ (w_X4_blocksOfPiece M_30 r_32 (fun (r_38 : Int64) (M_36 : Mem) => (w_X4_findLowest M_36 (v_14 &&& r_38) (fun (r_42 : Int32) (M_40 : Mem) => (mE M_40 2 a2 = true ∧ (mE M_40 0 a1 = true ∧ (w_X0_add M_40 a1 r_42 (mI M_40 2 a2 0) (fun (M_46 : Mem) => (Q M_46))))))))))))))))))))))))))))
def b_X4_askOthers_84 (k41 : Mem → Nat → Int64 → Int32 → Int32 → Prop) (Q : Mem → Prop) (M : Mem) (x1 : Nat) (x3 : Int64) (x6 : Int32) (x7 : Int32) : Prop :=
  (∀ v_26 : Int32, v_26 = x7 + 1 → (k41 M x1 x3 x6 v_26))
def b_X4_askOthers_41 (Q : Mem → Prop) (k41 : Mem → Nat → Int64 → Int32 → Int32 → Prop) (M : Mem) (x1 : Nat) (x3 : Int64) (x6 : Int32) (x7 : Int32) : Prop :=
  ((x6 ≤ x7 → (Q M)) ∧ (¬ x6 ≤ x7 → (mE M 10 0 = true ∧ (vp_in x7 6 ∧ ((mF M 10 0 x7.toNatClampNeg = true → (mE M 2 x7.toNatClampNeg = true ∧ (mE M 2 x1 = true ∧ (w_X4_isIn M ((mI M 2 x7.toNatClampNeg 13).toInt64) (mI M 2 x1 0) (fun (r_24 : Int32) (M_22 : Mem) => ((r_24 = 0 → (b_X4_askOthers_84 k41 Q M_22 x1 x3 x6 x7)) ∧ (¬ r_24 = 0 → (mE M_22 4 0 = true ∧ (w_X4_askOne M_22 x1 x7.toNatClampNeg x3 (fun (M_29 : Mem) => (b_X4_askOthers_84 k41 Q M_29 x1 x3 x6 x7))))))))))) ∧ (mF M 10 0 x7.toNatClampNeg = false → (b_X4_askOthers_84 k41 Q M x1 x3 x6 x7)))))))
def l_X4_askOthers_41 (Q : Mem → Prop) (n : Nat) : Mem → Nat → Int64 → Int32 → Int32 → Prop :=
  Nat.rec (motive := fun _ => Mem → Nat → Int64 → Int32 → Int32 → Prop) (fun _ _ _ _ _ => False) (fun _ k => b_X4_askOthers_41 Q k) n
def w_X4_askOthers (M : Mem) (a1 : Nat) (a2 : Int32) (Q : Mem → Prop) : Prop :=
  (mE M 2 a1 = true ∧ (mF M 2 a1 1 = true ∧ (mE M 3 a1 = true ∧ (w_X4_blocksOf M (a2 &&& ((mI M 3 a1 0) ^^^ (-1))) (fun (r_7 : Int64) (M_5 : Mem) => (mE M_5 2 a1 = true ∧ (mF M_5 2 a1 1 = true ∧ (mE M_5 3 a1 = true ∧ (∀ v_11 : Int64, v_11 = (r_7 &&& ((mL M_5 3 a1 1) ^^^ (-1))) → (mE M_5 4 0 = true ∧ (mF M_5 4 0 0 = true ∧ (mE M_5 10 0 = true ∧ (∃ n : Nat, l_X4_askOthers_41 Q n M_5 a1 v_11 6 0)))))))))))))
def b_X4_askAll_40 (k16 : Mem → Int32 → Int32 → Int32 → Prop) (Q : Mem → Prop) (M : Mem) (x1 : Int32) (x3 : Int32) (x4 : Int32) : Prop :=
  (∀ v_18 : Int32, v_18 = x4 + 1 → (k16 M x1 x3 v_18))
def b_X4_askAll_16 (Q : Mem → Prop) (k16 : Mem → Int32 → Int32 → Int32 → Prop) (M : Mem) (x1 : Int32) (x3 : Int32) (x4 : Int32) : Prop :=
  ((x3 ≤ x4 → (Q M)) ∧ (¬ x3 ≤ x4 → (mE M 10 0 = true ∧ (vp_in x4 6 ∧ ((mF M 10 0 x4.toNatClampNeg = true → (mE M 4 0 = true ∧ (w_X4_askOthers M x4.toNatClampNeg x1 (fun (M_15 : Mem) => (b_X4_askAll_40 k16 Q M_15 x1 x3 x4))))) ∧ (mF M 10 0 x4.toNatClampNeg = false → (b_X4_askAll_40 k16 Q M x1 x3 x4)))))))
def l_X4_askAll_16 (Q : Mem → Prop) (n : Nat) : Mem → Int32 → Int32 → Int32 → Prop :=
  Nat.rec (motive := fun _ => Mem → Int32 → Int32 → Int32 → Prop) (fun _ _ _ _ => False) (fun _ k => b_X4_askAll_16 Q k) n
def w_X4_askAll (M : Mem) (Q : Mem → Prop) : Prop :=
  (mE M 4 0 = true ∧ (w_X4_wantedPieces M (fun (r_5 : Int32) (M_3 : Mem) => (mE M_3 4 0 = true ∧ (mF M_3 4 0 0 = true ∧ (mE M_3 10 0 = true ∧ (∃ n : Nat, l_X4_askAll_16 Q n M_3 r_5 6 0)))))))
def b_X1_add_32 (Q : Mem → Prop) (M : Mem) (x0 : Nat) (x2 : Int32) (s0 : Int32) (s1 : Int32) (s2 : Int32) (s3 : Nat) : Prop :=
  (mE M 22 s3 = true ∧ (vp_in s2 1000 ∧ (∀ M_8 : Mem, M_8 = wI M 22 s3 s2.toNatClampNeg (((s1 + s0) * 48) + x2) → (mE M_8 1 x0 = true ∧ (∀ M_10 : Mem, M_10 = wI M_8 1 x0 2 ((mI M_8 1 x0 2) + 1) → (Q M_10))))))
def w_X1_add (M : Mem) (t : Nat) (a1 : Int32) (a2 : Int32) (a3 : Int32) (Q : Mem → Prop) : Prop :=
  (mE M 1 t = true ∧ (mF M 1 t 1 = true ∧ (mE M 22 t = true ∧ (((1000 : Int32) ≤ (mI M 1 t 2) → (Q M)) ∧ (¬ (1000 : Int32) ≤ (mI M 1 t 2) → ((a3 = 0 → (b_X1_add_32 Q M t a2 0 (a1 * 2) (mI M 1 t 2) t)) ∧ (¬ a3 = 0 → (b_X1_add_32 Q M t a2 1 (a1 * 2) (mI M 1 t 2) t))))))))
def w_X3_take (M : Mem) (t : Nat) (a1 : Int32) (a2 : Int32) (Q : Int32 → Mem → Prop) : Prop :=
  (mE M 3 t = true ∧ (w_X4_isIn M (mL M 3 t 1) a1 (fun (r_5 : Int32) (M_3 : Mem) => ((r_5 = 0 → (mE M_3 3 t = true ∧ (∀ M_8 : Mem, M_8 = wL M_3 3 t 1 ((mL M_3 3 t 1) ||| (1 <<< (a1.toInt64 &&& 63))) → ((a2 = 0 → (Q 1 M_8)) ∧ (¬ a2 = 0 → (∀ M_10 : Mem, M_10 = wL M_8 3 t 2 ((mL M_8 3 t 2) ||| (1 <<< (a1.toInt64 &&& 63))) → (Q 1 M_10))))))) ∧ (¬ r_5 = 0 → (Q 0 M_3))))))
def b_J7_fill_53178_24_5 (Q : Mem → Prop) (k5 : Mem → Nat → Int32 → Int32 → Int32 → Prop) (M : Mem) (x0 : Nat) (x1 : Int32) (x2 : Int32) (x3 : Int32) : Prop :=
  ((x3 ≤ x2 → (Q M)) ∧ (¬ x3 ≤ x2 → (mE M 24 x0 = true ∧ (vp_in x2 6 ∧ (∀ M_5 : Mem, M_5 = wI M 24 x0 x2.toNatClampNeg x1 → (∀ v_6 : Int32, v_6 = x2 + 1 → (k5 M_5 x0 x1 v_6 x3)))))))
def l_J7_fill_53178_24_5 (Q : Mem → Prop) (n : Nat) : Mem → Nat → Int32 → Int32 → Int32 → Prop :=
  Nat.rec (motive := fun _ => Mem → Nat → Int32 → Int32 → Int32 → Prop) (fun _ _ _ _ _ => False) (fun _ k => b_J7_fill_53178_24_5 Q k) n
def w_J7_fill_53178_24 (M : Mem) (a0 : Nat) (a1 : Int32) (Q : Mem → Prop) : Prop :=
  (mE M 24 a0 = true ∧ (∃ n : Nat, l_J7_fill_53178_24_5 Q n M a0 a1 0 6))
def b_X4_comeTo_151 (k12 : Mem → Nat → Int32 → Int32 → Prop) (Q : Int32 → Mem → Prop) (M : Mem) (x1 : Nat) (x2 : Int32) (x3 : Int32) : Prop :=
  (∀ v_42 : Int32, v_42 = x3 + 1 → (k12 M x1 x2 v_42))
def b_X4_comeTo_79 (k12 : Mem → Nat → Int32 → Int32 → Prop) (Q : Int32 → Mem → Prop) (M : Mem) (x1 : Nat) (x2 : Int32) (x3 : Int32) (x4 : Int32) (x5 : Int32) (s0 : Int32) : Prop :=
  (mE M 2 x1 = true ∧ (mF M 2 x1 2 = true ∧ (mE M 4 0 = true ∧ (mE M 1 x1 = true ∧ (w_X1_add M x1 (mI M 4 0 4) x4 s0 (fun (M_29 : Mem) => (mE M_29 2 x1 = true ∧ (mF M_29 2 x1 1 = true ∧ (mE M_29 3 x1 = true ∧ (w_X3_take M_29 x1 x4 s0 (fun (r_38 : Int32) (M_36 : Mem) => ((r_38 = 0 → (mE M_36 2 x1 = true ∧ (∀ M_41 : Mem, M_41 = wI M_36 2 x1 11 ((mI M_36 2 x1 11) + 1) → (b_X4_comeTo_151 k12 Q M_41 x1 x2 x3)))) ∧ (¬ r_38 = 0 → (mE M_36 2 x1 = true ∧ (mF M_36 2 x1 7 = true ∧ (mE M_36 23 x1 = true ∧ (vp_in x5 6 ∧ (vp_in x5 6 ∧ (∀ M_48 : Mem, M_48 = wL M_36 23 x1 x5.toNatClampNeg ((mL M_36 23 x1 x5.toNatClampNeg) ||| (1 <<< (x4.toInt64 &&& 63))) → (mF M_48 2 x1 8 = true ∧ (mE M_48 24 x1 = true ∧ (vp_in x5 6 ∧ (vp_in x5 6 ∧ (∀ M_53 : Mem, M_53 = wI M_48 24 x1 x5.toNatClampNeg ((mI M_48 24 x1 x5.toNatClampNeg) + 1) → (∀ v_54 : Int32, v_54 = x2 + 1 → (b_X4_comeTo_151 k12 Q M_53 x1 v_54 x3))))))))))))))))))))))))))
def b_X4_comeTo_78 (k12 : Mem → Nat → Int32 → Int32 → Prop) (Q : Int32 → Mem → Prop) (M : Mem) (x1 : Nat) (x2 : Int32) (x3 : Int32) (x4 : Int32) (x5 : Int32) : Prop :=
  (b_X4_comeTo_79 k12 Q M x1 x2 x3 x4 x5 0)
def b_X4_comeTo_12 (Q : Int32 → Mem → Prop) (k12 : Mem → Nat → Int32 → Int32 → Prop) (M : Mem) (x1 : Nat) (x2 : Int32) (x3 : Int32) : Prop :=
  (mE M 2 x1 = true ∧ (mF M 2 x1 3 = true ∧ (mE M 0 x1 = true ∧ (((mI M 0 x1 2) ≤ x3 → (Q x2 M)) ∧ (¬ (mI M 0 x1 2) ≤ x3 → (mF M 0 x1 0 = true ∧ (mE M 20 x1 = true ∧ (vp_in x3 6 ∧ (∀ v_14 : Int32, v_14 = (mI M 20 x1 x3.toNatClampNeg) → (mF M 0 x1 1 = true ∧ (mE M 21 x1 = true ∧ (vp_in x3 6 ∧ (∀ v_18 : Int32, v_18 = (mI M 21 x1 x3.toNatClampNeg) → (mE M 4 0 = true ∧ (w_X4_find M v_18 (fun (z : Option Nat) (M_21 : Mem) => ((z = none → (b_X4_comeTo_78 k12 Q M_21 x1 x2 x3 v_14 v_18)) ∧ (∀ r_23 : Nat, z = some r_23 → (mE M_21 2 r_23 = true ∧ (w_X4_isIn M_21 ((mI M_21 2 r_23 4).toInt64) (v_14 / 4) (fun (r_59 : Int32) (M_57 : Mem) => ((r_59 = 0 → (b_X4_comeTo_78 k12 Q M_57 x1 x2 x3 v_14 v_18)) ∧ (¬ r_59 = 0 → (b_X4_comeTo_79 k12 Q M_57 x1 x2 x3 v_14 v_18 1))))))))))))))))))))))))
def l_X4_comeTo_12 (Q : Int32 → Mem → Prop) (n : Nat) : Mem → Nat → Int32 → Int32 → Prop :=
  Nat.rec (motive := fun _ => Mem → Nat → Int32 → Int32 → Prop) (fun _ _ _ _ => False) (fun _ k => b_X4_comeTo_12 Q k) n
def w_X4_comeTo (M : Mem) (a1 : Nat) (Q : Int32 → Mem → Prop) : Prop :=
  (mE M 2 a1 = true ∧ (mF M 2 a1 8 = true ∧ (w_J7_fill_53178_24 M a1 0 (fun (M_4 : Mem) => (∃ n : Nat, l_X4_comeTo_12 Q n M_4 a1 0 0)))))
def b_X4_comeAll_39 (k13 : Mem → Int32 → Int32 → Int32 → Prop) (Q : Int32 → Mem → Prop) (M : Mem) (x1 : Int32) (x3 : Int32) (x4 : Int32) : Prop :=
  (∀ v_14 : Int32, v_14 = x4 + 1 → (k13 M x1 x3 v_14))
def b_X4_comeAll_13 (Q : Int32 → Mem → Prop) (k13 : Mem → Int32 → Int32 → Int32 → Prop) (M : Mem) (x1 : Int32) (x3 : Int32) (x4 : Int32) : Prop :=
  ((x3 ≤ x4 → (Q x1 M)) ∧ (¬ x3 ≤ x4 → (mE M 10 0 = true ∧ (vp_in x4 6 ∧ ((mF M 10 0 x4.toNatClampNeg = true → (mE M 4 0 = true ∧ (w_X4_comeTo M x4.toNatClampNeg (fun (r_12 : Int32) (M_10 : Mem) => (∀ v_13 : Int32, v_13 = (x1 + r_12) → (b_X4_comeAll_39 k13 Q M_10 v_13 x3 x4)))))) ∧ (mF M 10 0 x4.toNatClampNeg = false → (b_X4_comeAll_39 k13 Q M x1 x3 x4)))))))
def l_X4_comeAll_13 (Q : Int32 → Mem → Prop) (n : Nat) : Mem → Int32 → Int32 → Int32 → Prop :=
  Nat.rec (motive := fun _ => Mem → Int32 → Int32 → Int32 → Prop) (fun _ _ _ _ => False) (fun _ k => b_X4_comeAll_13 Q k) n
def w_X4_comeAll (M : Mem) (Q : Int32 → Mem → Prop) : Prop :=
  (mE M 4 0 = true ∧ (mF M 4 0 0 = true ∧ (mE M 10 0 = true ∧ (∃ n : Nat, l_X4_comeAll_13 Q n M 0 6 0))))
def w_X3_isComplete (M : Mem) (t : Nat) (a1 : Int32) (Q : Int32 → Mem → Prop) : Prop :=
  (mE M 3 t = true ∧ (w_X4_blocksOfPiece M a1 (fun (r_5 : Int64) (M_3 : Mem) => (((lg_cmp (((mL M 3 t 1) ^^^ (-1)) &&& r_5) 0) = 0 → (Q 1 M_3)) ∧ (¬ (lg_cmp (((mL M 3 t 1) ^^^ (-1)) &&& r_5) 0) = 0 → (Q 0 M_3))))))
def w_X3_isSound (M : Mem) (t : Nat) (a1 : Int32) (Q : Int32 → Mem → Prop) : Prop :=
  (mE M 3 t = true ∧ (w_X4_blocksOfPiece M a1 (fun (r_5 : Int64) (M_3 : Mem) => (((lg_cmp ((mL M 3 t 2) &&& r_5) 0) = 0 → (Q 1 M_3)) ∧ (¬ (lg_cmp ((mL M 3 t 2) &&& r_5) 0) = 0 → (Q 0 M_3))))))
def b_X2_blame_78 (k8 : Mem → Nat → Int64 → Int32 → Prop) (Q : Mem → Prop) (M : Mem) (x0 : Nat) (x2 : Int64) (x4 : Int32) : Prop :=
  (∀ v_12 : Int32, v_12 = x4 + 1 → (k8 M x0 x2 v_12))
def b_X2_blame_65 (k8 : Mem → Nat → Int64 → Int32 → Prop) (Q : Mem → Prop) (M : Mem) (x0 : Nat) (x2 : Int64) (x4 : Int32) : Prop :=
  (mE M 2 x0 = true ∧ (∀ M_20 : Mem, M_20 = wI M 2 x0 10 ((mI M 2 x0 10) ||| (1 <<< (x4 &&& 31))) → (b_X2_blame_78 k8 Q M_20 x0 x2 x4)))
def b_X2_blame_8 (Q : Mem → Prop) (k8 : Mem → Nat → Int64 → Int32 → Prop) (M : Mem) (x0 : Nat) (x2 : Int64) (x4 : Int32) : Prop :=
  (mE M 2 x0 = true ∧ (mF M 2 x0 7 = true ∧ (mE M 23 x0 = true ∧ (((6 : Int32) ≤ x4 → (Q M)) ∧ (¬ (6 : Int32) ≤ x4 → (vp_in x4 6 ∧ (∀ v_10 : Int64, v_10 = ((mL M 23 x0 x4.toNatClampNeg) &&& x2) → (((lg_cmp v_10 0) = 0 → (b_X2_blame_78 k8 Q M x0 x2 x4)) ∧ (¬ (lg_cmp v_10 0) = 0 → (mF M 2 x0 9 = true ∧ (mE M 25 x0 = true ∧ (vp_in x4 6 ∧ (vp_in x4 6 ∧ (∀ M_17 : Mem, M_17 = wI M 25 x0 x4.toNatClampNeg ((mI M 25 x0 x4.toNatClampNeg) + 1) → (((lg_cmp v_10 x2) = 0 → (b_X2_blame_65 k8 Q M_17 x0 x2 x4)) ∧ (¬ (lg_cmp v_10 x2) = 0 → (vp_in x4 6 ∧ (((mI M_17 25 x0 x4.toNatClampNeg) < 3 → (b_X2_blame_78 k8 Q M_17 x0 x2 x4)) ∧ (¬ (mI M_17 25 x0 x4.toNatClampNeg) < 3 → (b_X2_blame_65 k8 Q M_17 x0 x2 x4))))))))))))))))))))
def l_X2_blame_8 (Q : Mem → Prop) (n : Nat) : Mem → Nat → Int64 → Int32 → Prop :=
  Nat.rec (motive := fun _ => Mem → Nat → Int64 → Int32 → Prop) (fun _ _ _ _ => False) (fun _ k => b_X2_blame_8 Q k) n
def w_X2_blame (M : Mem) (t : Nat) (a1 : Int32) (Q : Mem → Prop) : Prop :=
  (w_X4_blocksOfPiece M a1 (fun (r_4 : Int64) (M_2 : Mem) => (∃ n : Nat, l_X2_blame_8 Q n M_2 t r_4 0)))
def b_X2_forgetSenders_2 (Q : Mem → Prop) (k2 : Mem → Nat → Int32 → Int32 → Prop) (M : Mem) (x0 : Nat) (x1 : Int32) (x2 : Int32) : Prop :=
  (mE M 2 x0 = true ∧ (mF M 2 x0 7 = true ∧ (mE M 23 x0 = true ∧ (((6 : Int32) ≤ x2 → (Q M)) ∧ (¬ (6 : Int32) ≤ x2 → (vp_in x2 6 ∧ (w_X4_blocksOfPiece M x1 (fun (r_9 : Int64) (M_7 : Mem) => (mE M_7 23 x0 = true ∧ (vp_in x2 6 ∧ (∀ M_12 : Mem, M_12 = wL M_7 23 x0 x2.toNatClampNeg ((mL M 23 x0 x2.toNatClampNeg) &&& (r_9 ^^^ (-1))) → (∀ v_13 : Int32, v_13 = x2 + 1 → (k2 M_12 x0 x1 v_13)))))))))))))
def l_X2_forgetSenders_2 (Q : Mem → Prop) (n : Nat) : Mem → Nat → Int32 → Int32 → Prop :=
  Nat.rec (motive := fun _ => Mem → Nat → Int32 → Int32 → Prop) (fun _ _ _ _ => False) (fun _ k => b_X2_forgetSenders_2 Q k) n
def w_X2_forgetSenders (M : Mem) (t : Nat) (a1 : Int32) (Q : Mem → Prop) : Prop :=
  (∃ n : Nat, l_X2_forgetSenders_2 Q n M t a1 0)
def b_X3_settleAll_70 (k2 : Mem → Nat → Int32 → Prop) (Q : Mem → Prop) (M : Mem) (x0 : Nat) (x1 : Int32) : Prop :=
  (∀ v_8 : Int32, v_8 = x1 + 1 → (k2 M x0 v_8))
def b_X3_settleAll_36 (k2 : Mem → Nat → Int32 → Prop) (Q : Mem → Prop) (M : Mem) (x0 : Nat) (x1 : Int32) : Prop :=
  (mE M 3 x0 = true ∧ (w_X4_blocksOfPiece M x1 (fun (r_19 : Int64) (M_17 : Mem) => (mE M_17 3 x0 = true ∧ (∀ M_21 : Mem, M_21 = wL M_17 3 x0 1 ((mL M 3 x0 1) &&& (r_19 ^^^ (-1))) → (w_X4_blocksOfPiece M_21 x1 (fun (r_25 : Int64) (M_23 : Mem) => (mE M_23 3 x0 = true ∧ (∀ M_27 : Mem, M_27 = wL M_23 3 x0 2 ((mL M_21 3 x0 2) &&& (r_25 ^^^ (-1))) → (b_X3_settleAll_70 k2 Q M_27 x0 x1))))))))))
def b_X3_settleAll_2 (Q : Mem → Prop) (k2 : Mem → Nat → Int32 → Prop) (M : Mem) (x0 : Nat) (x1 : Int32) : Prop :=
  (((12 : Int32) ≤ x1 → (Q M)) ∧ (¬ (12 : Int32) ≤ x1 → (mE M 3 x0 = true ∧ (w_X3_isComplete M x0 x1 (fun (r_6 : Int32) (M_4 : Mem) => ((r_6 = 0 → (b_X3_settleAll_70 k2 Q M_4 x0 x1)) ∧ (¬ r_6 = 0 → (mE M_4 3 x0 = true ∧ (w_X3_isSound M_4 x0 x1 (fun (r_13 : Int32) (M_11 : Mem) => ((r_13 = 0 → (b_X3_settleAll_36 k2 Q M_11 x0 x1)) ∧ (¬ r_13 = 0 → (mE M_11 3 x0 = true ∧ (∀ M_29 : Mem, M_29 = wI M_11 3 x0 0 ((mI M_11 3 x0 0) ||| (1 <<< (x1 &&& 31))) → (b_X3_settleAll_36 k2 Q M_29 x0 x1)))))))))))))))
def l_X3_settleAll_2 (Q : Mem → Prop) (n : Nat) : Mem → Nat → Int32 → Prop :=
  Nat.rec (motive := fun _ => Mem → Nat → Int32 → Prop) (fun _ _ _ => False) (fun _ k => b_X3_settleAll_2 Q k) n
def w_X3_settleAll (M : Mem) (t : Nat) (Q : Mem → Prop) : Prop :=
  (∃ n : Nat, l_X3_settleAll_2 Q n M t 0)
def b_X4_settle_40 (k2 : Mem → Nat → Int32 → Prop) (Q : Mem → Prop) (M : Mem) (x0 : Nat) (x1 : Int32) : Prop :=
  (∀ v_17 : Int32, v_17 = x1 + 1 → (k2 M x0 v_17))
def b_X4_settle_35 (k2 : Mem → Nat → Int32 → Prop) (Q : Mem → Prop) (M : Mem) (x0 : Nat) (x1 : Int32) : Prop :=
  (mE M 2 x0 = true ∧ (w_X2_forgetSenders M x0 x1 (fun (M_28 : Mem) => (b_X4_settle_40 k2 Q M_28 x0 x1))))
def b_X4_settle_2 (Q : Mem → Prop) (k2 : Mem → Nat → Int32 → Prop) (M : Mem) (x0 : Nat) (x1 : Int32) : Prop :=
  (((12 : Int32) ≤ x1 → (mE M 2 x0 = true ∧ (mF M 2 x0 1 = true ∧ (mE M 3 x0 = true ∧ (w_X3_settleAll M x0 (fun (M_6 : Mem) => (Q M_6))))))) ∧ (¬ (12 : Int32) ≤ x1 → (mE M 2 x0 = true ∧ (mF M 2 x0 1 = true ∧ (mE M 3 x0 = true ∧ (w_X3_isComplete M x0 x1 (fun (r_15 : Int32) (M_13 : Mem) => ((r_15 = 0 → (b_X4_settle_40 k2 Q M_13 x0 x1)) ∧ (¬ r_15 = 0 → (mE M_13 2 x0 = true ∧ (mF M_13 2 x0 1 = true ∧ (mE M_13 3 x0 = true ∧ (w_X3_isSound M_13 x0 x1 (fun (r_24 : Int32) (M_22 : Mem) => ((r_24 = 0 → (mE M_22 2 x0 = true ∧ (w_X2_blame M_22 x0 x1 (fun (M_33 : Mem) => (b_X4_settle_35 k2 Q M_33 x0 x1))))) ∧ (¬ r_24 = 0 → (b_X4_settle_35 k2 Q M_22 x0 x1)))))))))))))))))
def l_X4_settle_2 (Q : Mem → Prop) (n : Nat) : Mem → Nat → Int32 → Prop :=
  Nat.rec (motive := fun _ => Mem → Nat → Int32 → Prop) (fun _ _ _ => False) (fun _ k => b_X4_settle_2 Q k) n
def w_X4_settle (M : Mem) (a0 : Nat) (Q : Mem → Prop) : Prop :=
  (∃ n : Nat, l_X4_settle_2 Q n M a0 0)
def b_X4_runRound_46 (k24 : Mem → Int32 → Int32 → Int32 → Prop) (Q : Int32 → Mem → Prop) (M : Mem) (x1 : Int32) (x3 : Int32) (x4 : Int32) : Prop :=
  (∀ v_29 : Int32, v_29 = x4 + 1 → (k24 M x1 x3 v_29))
def b_X4_runRound_24 (Q : Int32 → Mem → Prop) (k24 : Mem → Int32 → Int32 → Int32 → Prop) (M : Mem) (x1 : Int32) (x3 : Int32) (x4 : Int32) : Prop :=
  ((x3 ≤ x4 → (mE M 4 0 = true ∧ (∀ M_21 : Mem, M_21 = wI M 4 0 4 ((mI M 4 0 4) + 1) → (Q x1 M_21)))) ∧ (¬ x3 ≤ x4 → (mE M 10 0 = true ∧ (vp_in x4 6 ∧ ((mF M 10 0 x4.toNatClampNeg = true → (w_X4_settle M x4.toNatClampNeg (fun (M_26 : Mem) => (b_X4_runRound_46 k24 Q M_26 x1 x3 x4)))) ∧ (mF M 10 0 x4.toNatClampNeg = false → (b_X4_runRound_46 k24 Q M x1 x3 x4)))))))
def l_X4_runRound_24 (Q : Int32 → Mem → Prop) (n : Nat) : Mem → Int32 → Int32 → Int32 → Prop :=
  Nat.rec (motive := fun _ => Mem → Int32 → Int32 → Int32 → Prop) (fun _ _ _ _ => False) (fun _ k => b_X4_runRound_24 Q k) n
def w_X4_runRound (M : Mem) (Q : Int32 → Mem → Prop) : Prop :=
  (mE M 4 0 = true ∧ (w_X4_begin M (fun (M_3 : Mem) => (mE M_3 4 0 = true ∧ (w_X4_askAll M_3 (fun (M_8 : Mem) => (mE M_8 4 0 = true ∧ (w_X4_comeAll M_8 (fun (r_15 : Int32) (M_13 : Mem) => (mE M_13 4 0 = true ∧ (mF M_13 4 0 0 = true ∧ (mE M_13 10 0 = true ∧ (∃ n : Nat, l_X4_runRound_24 Q n M_13 r_15 6 0)))))))))))))
def b_X4_run_11 (Q : Int32 → Mem → Prop) (X : Nat → Mem → Prop) (M : Mem) : Prop :=
  (X 2 M)
def b_X4_run_47 (Q : Int32 → Mem → Prop) (X : Nat → Mem → Prop) (k47 : Mem → Int32 → Int32 → Int32 → Prop) (M : Mem) (x1 : Int32) (x2 : Int32) (x3 : Int32) : Prop :=
  ((x1 ≤ x3 → (Q x2 M)) ∧ (¬ x1 ≤ x3 → (mE M 4 0 = true ∧ (w_X4_runRound M (fun (r_10 : Int32) (M_8 : Mem) => (∀ v_11 : Int32, v_11 = (x2 + r_10) → (∀ v_12 : Int32, v_12 = x3 + 1 → (k47 M_8 x1 v_11 v_12))))))))
def l_X4_run_47 (Q : Int32 → Mem → Prop) (X : Nat → Mem → Prop) (n : Nat) : Mem → Int32 → Int32 → Int32 → Prop :=
  Nat.rec (motive := fun _ => Mem → Int32 → Int32 → Int32 → Prop) (fun _ _ _ _ => False) (fun _ k => b_X4_run_47 Q X k) n
def w_X4_run (M : Mem) (a1 : Int32) (Q : Int32 → Mem → Prop) (X : Nat → Mem → Prop) : Prop :=
  ((a1 < 1 → (b_X4_run_11 Q X M)) ∧ (¬ a1 < 1 → ((a1 ≤ 20 → (mE M 4 0 = true ∧ ((((mI M 4 0 4) + a1) ≤ 200 → (∃ n : Nat, l_X4_run_47 Q X n M a1 0 0)) ∧ (¬ ((mI M 4 0 4) + a1) ≤ 200 → (X 0 M))))) ∧ (¬ a1 ≤ 20 → (b_X4_run_11 Q X M)))))
def w_L_run (M : Mem) (a1 : Int32) (Q : Int32 → Mem → Prop) : Prop :=
  (mE M 4 0 = true ∧ (w_X4_run M a1 (fun (r_5 : Int32) (M_3 : Mem) => (mE M_3 60 0 = true ∧ (vp_in 0 1 ∧ (∀ M_8 : Mem, M_8 = wL M_3 60 0 ((0 : Int32).toNatClampNeg) r_5.toInt64 → (Q 0 M_8))))) (fun (k : Nat) (M_2 : Mem) => (k = 2 ∧ (Q 1 M_2)) ∨ (k = 0 ∧ (Q 2 M_2)))))
def w_X5_pair (M : Mem) (a0 : Int32) (a1 : Int32) (Q : Int32 → Mem → Prop) : Prop :=
  (Q ((6 * a0) + a1) M)
def b_X5_holdersOf_40 (k4 : Mem → Int32 → Int32 → Int32 → Prop) (Q : Int32 → Mem → Prop) (M : Mem) (x1 : Int32) (x3 : Int32) (s0 : Int32) (s1 : Int32) : Prop :=
  (∀ v_7 : Int32, v_7 = (s1 + s0) → (∀ v_8 : Int32, v_8 = x3 + 1 → (k4 M x1 v_7 v_8)))
def b_X5_holdersOf_39 (k4 : Mem → Int32 → Int32 → Int32 → Prop) (Q : Int32 → Mem → Prop) (M : Mem) (x1 : Int32) (x3 : Int32) (s0 : Int32) : Prop :=
  (b_X5_holdersOf_40 k4 Q M x1 x3 0 s0)
def b_X5_holdersOf_4 (Q : Int32 → Mem → Prop) (k4 : Mem → Int32 → Int32 → Int32 → Prop) (M : Mem) (x1 : Int32) (x2 : Int32) (x3 : Int32) : Prop :=
  (mE M 5 0 = true ∧ (((mI M 5 0 3) ≤ x3 → (Q x2 M)) ∧ (¬ (mI M 5 0 3) ≤ x3 → (mF M 5 0 4 = true ∧ (mE M 34 0 = true ∧ (vp_in x3 6 ∧ (((mI M 34 0 x3.toNatClampNeg) = 0 → (b_X5_holdersOf_39 k4 Q M x1 x3 x2)) ∧ (¬ (mI M 34 0 x3.toNatClampNeg) = 0 → (mF M 5 0 5 = true ∧ (mE M 35 0 = true ∧ (vp_in x3 6 ∧ (w_X5_has M (mI M 35 0 x3.toNatClampNeg) x1 (fun (r_15 : Int32) (M_13 : Mem) => ((r_15 = 0 → (b_X5_holdersOf_39 k4 Q M_13 x1 x3 x2)) ∧ (¬ r_15 = 0 → (b_X5_holdersOf_40 k4 Q M_13 x1 x3 1 x2))))))))))))))))
def l_X5_holdersOf_4 (Q : Int32 → Mem → Prop) (n : Nat) : Mem → Int32 → Int32 → Int32 → Prop :=
  Nat.rec (motive := fun _ => Mem → Int32 → Int32 → Int32 → Prop) (fun _ _ _ _ => False) (fun _ k => b_X5_holdersOf_4 Q k) n
def w_X5_holdersOf (M : Mem) (a1 : Int32) (Q : Int32 → Mem → Prop) : Prop :=
  (∃ n : Nat, l_X5_holdersOf_4 Q n M a1 0 0)
def b_X5_shownBy_14 (Q : Int32 → Mem → Prop) (M : Mem) (x1 : Int32) (x2 : Int32) : Prop :=
  ((x1 = x2 → (Q 0 M)) ∧ (¬ x1 = x2 → (mE M 5 0 = true ∧ (mF M 5 0 5 = true ∧ (mE M 35 0 = true ∧ (vp_in x1 6 ∧ (Q (mI M 35 0 x1.toNatClampNeg) M)))))))
def b_X5_shownBy_115 (k36 : Mem → Int32 → Int32 → Int32 → Int32 → Prop) (Q : Int32 → Mem → Prop) (M : Mem) (x1 : Int32) (x2 : Int32) (x4 : Int32) (s0 : Int32) : Prop :=
  (∀ v_25 : Int32, v_25 = x4 + (-1) → (k36 M x1 x2 s0 v_25))
def b_X5_shownBy_114 (k36 : Mem → Int32 → Int32 → Int32 → Int32 → Prop) (Q : Int32 → Mem → Prop) (M : Mem) (x1 : Int32) (x2 : Int32) (x3 : Int32) (x4 : Int32) : Prop :=
  (b_X5_shownBy_115 k36 Q M x1 x2 x4 x3)
def b_X5_shownBy_109 (k36 : Mem → Int32 → Int32 → Int32 → Int32 → Prop) (Q : Int32 → Mem → Prop) (M : Mem) (x1 : Int32) (x2 : Int32) (x4 : Int32) (x5 : Int32) : Prop :=
  (b_X5_shownBy_115 k36 Q M x1 x2 x4 x5)
def b_X5_shownBy_83 (k36 : Mem → Int32 → Int32 → Int32 → Int32 → Prop) (Q : Int32 → Mem → Prop) (M : Mem) (x1 : Int32) (x2 : Int32) (x3 : Int32) (x4 : Int32) (x5 : Int32) (s0 : Int32) : Prop :=
  ((s0 = 0 → (b_X5_shownBy_114 k36 Q M x1 x2 x3 x4)) ∧ (¬ s0 = 0 → ((x3 = (-1) → (b_X5_shownBy_109 k36 Q M x1 x2 x4 x5)) ∧ (¬ x3 = (-1) → (mE M 5 0 = true ∧ (w_X5_holdersOf M x5 (fun (r_31 : Int32) (M_29 : Mem) => (mE M_29 5 0 = true ∧ (w_X5_holdersOf M_29 x3 (fun (r_36 : Int32) (M_34 : Mem) => ((r_36 < r_31 → (b_X5_shownBy_114 k36 Q M_34 x1 x2 x3 x4)) ∧ (¬ r_36 < r_31 → (b_X5_shownBy_109 k36 Q M_34 x1 x2 x4 x5)))))))))))))
def b_X5_shownBy_82 (k36 : Mem → Int32 → Int32 → Int32 → Int32 → Prop) (Q : Int32 → Mem → Prop) (M : Mem) (x1 : Int32) (x2 : Int32) (x3 : Int32) (x4 : Int32) (x5 : Int32) : Prop :=
  (b_X5_shownBy_83 k36 Q M x1 x2 x3 x4 x5 0)
def b_X5_shownBy_36 (Q : Int32 → Mem → Prop) (k36 : Mem → Int32 → Int32 → Int32 → Int32 → Prop) (M : Mem) (x1 : Int32) (x2 : Int32) (x3 : Int32) (x4 : Int32) : Prop :=
  ((x4 < 0 → ((x3 = (-1) → (Q 0 M)) ∧ (¬ x3 = (-1) → (Q (1 <<< (x3 &&& 31)) M)))) ∧ (¬ x4 < 0 → (∀ v_14 : Int32, v_14 = ((x2 + x4) - (x2 + x4) / 12 * 12) → (mE M 5 0 = true ∧ (mF M 5 0 5 = true ∧ (mE M 35 0 = true ∧ (vp_in x1 6 ∧ (w_X5_has M (mI M 35 0 x1.toNatClampNeg) v_14 (fun (r_22 : Int32) (M_20 : Mem) => ((r_22 = 0 → (b_X5_shownBy_82 k36 Q M_20 x1 x2 x3 x4 v_14)) ∧ (¬ r_22 = 0 → (mE M_20 5 0 = true ∧ (mF M_20 5 0 5 = true ∧ (mE M_20 35 0 = true ∧ (vp_in x2 6 ∧ (w_X5_has M_20 (mI M_20 35 0 x2.toNatClampNeg) v_14 (fun (r_45 : Int32) (M_43 : Mem) => ((r_45 = 0 → (b_X5_shownBy_83 k36 Q M_43 x1 x2 x3 x4 v_14 1)) ∧ (¬ r_45 = 0 → (b_X5_shownBy_82 k36 Q M_43 x1 x2 x3 x4 v_14))))))))))))))))))))
def l_X5_shownBy_36 (Q : Int32 → Mem → Prop) (n : Nat) : Mem → Int32 → Int32 → Int32 → Int32 → Prop :=
  Nat.rec (motive := fun _ => Mem → Int32 → Int32 → Int32 → Int32 → Prop) (fun _ _ _ _ _ => False) (fun _ k => b_X5_shownBy_36 Q k) n
def w_X5_shownBy (M : Mem) (a1 : Int32) (a2 : Int32) (Q : Int32 → Mem → Prop) : Prop :=
  ((a1 = a2 → (b_X5_shownBy_14 Q M a1 a2)) ∧ (¬ a1 = a2 → (mE M 5 0 = true ∧ (mF M 5 0 6 = true ∧ (mE M 36 0 = true ∧ (vp_in a1 6 ∧ (((mI M 36 0 a1.toNatClampNeg) = 0 → (b_X5_shownBy_14 Q M a1 a2)) ∧ (¬ (mI M 36 0 a1.toNatClampNeg) = 0 → (∃ n : Nat, l_X5_shownBy_36 Q n M a1 a2 (-1) 11)))))))))
def b_X5_lackedBy_40 (k4 : Mem → Int32 → Int32 → Int32 → Prop) (Q : Int32 → Mem → Prop) (M : Mem) (x1 : Int32) (x3 : Int32) (s0 : Int32) (s1 : Int32) : Prop :=
  (∀ v_7 : Int32, v_7 = (s1 ||| s0) → (∀ v_8 : Int32, v_8 = x3 + 1 → (k4 M x1 v_7 v_8)))
def b_X5_lackedBy_39 (k4 : Mem → Int32 → Int32 → Int32 → Prop) (Q : Int32 → Mem → Prop) (M : Mem) (x1 : Int32) (x3 : Int32) (s0 : Int32) : Prop :=
  (b_X5_lackedBy_40 k4 Q M x1 x3 0 s0)
def b_X5_lackedBy_4 (Q : Int32 → Mem → Prop) (k4 : Mem → Int32 → Int32 → Int32 → Prop) (M : Mem) (x1 : Int32) (x2 : Int32) (x3 : Int32) : Prop :=
  (((12 : Int32) ≤ x3 → (Q x2 M)) ∧ (¬ (12 : Int32) ≤ x3 → (mE M 5 0 = true ∧ (mF M 5 0 2 = true ∧ (mE M 32 0 = true ∧ (vp_in x3 12 ∧ (((mI M 32 0 x3.toNatClampNeg) ≤ 0 → (b_X5_lackedBy_39 k4 Q M x1 x3 x2)) ∧ (¬ (mI M 32 0 x3.toNatClampNeg) ≤ 0 → (mF M 5 0 5 = true ∧ (mE M 35 0 = true ∧ (vp_in x1 6 ∧ (w_X5_has M (mI M 35 0 x1.toNatClampNeg) x3 (fun (r_15 : Int32) (M_13 : Mem) => ((r_15 = 0 → (b_X5_lackedBy_40 k4 Q M_13 x1 x3 (1 <<< (x3 &&& 31)) x2)) ∧ (¬ r_15 = 0 → (b_X5_lackedBy_39 k4 Q M_13 x1 x3 x2))))))))))))))))
def l_X5_lackedBy_4 (Q : Int32 → Mem → Prop) (n : Nat) : Mem → Int32 → Int32 → Int32 → Prop :=
  Nat.rec (motive := fun _ => Mem → Int32 → Int32 → Int32 → Prop) (fun _ _ _ _ => False) (fun _ k => b_X5_lackedBy_4 Q k) n
def w_X5_lackedBy (M : Mem) (a1 : Int32) (Q : Int32 → Mem → Prop) : Prop :=
  (∃ n : Nat, l_X5_lackedBy_4 Q n M a1 0 0)
def b_X5_wants_28 (Q : Int32 → Mem → Prop) (M : Mem) (x1 : Int32) (x2 : Int32) (s0 : Int32) : Prop :=
  ((s0 = 0 → (Q 0 M)) ∧ (¬ s0 = 0 → (mE M 5 0 = true ∧ (mF M 5 0 16 = true ∧ (w_X5_pair M x1 x2 (fun (r_8 : Int32) (M_6 : Mem) => (mE M_6 46 0 = true ∧ (vp_in r_8 36 ∧ (((mI M_6 46 0 r_8.toNatClampNeg) = 0 → (mE M_6 5 0 = true ∧ (w_X5_shownBy M_6 x2 x1 (fun (r_16 : Int32) (M_14 : Mem) => (mE M_14 5 0 = true ∧ (w_X5_lackedBy M_14 x1 (fun (r_21 : Int32) (M_19 : Mem) => (((r_16 &&& r_21) = 0 → (Q 0 M_19)) ∧ (¬ (r_16 &&& r_21) = 0 → (Q 1 M_19)))))))))) ∧ (¬ (mI M_6 46 0 r_8.toNatClampNeg) = 0 → (Q 0 M_6)))))))))))
def b_X5_wants_27 (Q : Int32 → Mem → Prop) (M : Mem) (x1 : Int32) (x2 : Int32) : Prop :=
  (b_X5_wants_28 Q M x1 x2 0)
def w_X5_wants (M : Mem) (a1 : Int32) (a2 : Int32) (Q : Int32 → Mem → Prop) : Prop :=
  ((a1 = a2 → (b_X5_wants_27 Q M a1 a2)) ∧ (¬ a1 = a2 → (mE M 5 0 = true ∧ (mF M 5 0 4 = true ∧ (mE M 34 0 = true ∧ (vp_in a1 6 ∧ (((mI M 34 0 a1.toNatClampNeg) = 0 → (b_X5_wants_27 Q M a1 a2)) ∧ (¬ (mI M 34 0 a1.toNatClampNeg) = 0 → (vp_in a2 6 ∧ (((mI M 34 0 a2.toNatClampNeg) = 0 → (b_X5_wants_27 Q M a1 a2)) ∧ (¬ (mI M 34 0 a2.toNatClampNeg) = 0 → (b_X5_wants_28 Q M a1 a2 1))))))))))))
def b_X5_choiceOf_209 (k165 : Mem → Int32 → Int32 → Int32 → Prop) (Q : Int32 → Mem → Prop) (M : Mem) (x2 : Int32) (x3 : Int32) (x4 : Int32) : Prop :=
  (∀ v_12 : Int32, v_12 = x4 + 1 → (k165 M x2 x3 v_12))
def b_X5_choiceOf_165 (Q : Int32 → Mem → Prop) (k165 : Mem → Int32 → Int32 → Int32 → Prop) (M : Mem) (x2 : Int32) (x3 : Int32) (x4 : Int32) : Prop :=
  (((6 : Int32) ≤ x4 → (Q x3 M)) ∧ (¬ (6 : Int32) ≤ x4 → (mE M 5 0 = true ∧ (∀ v_6 : Int32, v_6 = (((mI M 5 0 1) + x4) - ((mI M 5 0 1) + x4) / 6 * 6) → (w_X5_has M x2 v_6 (fun (r_10 : Int32) (M_8 : Mem) => ((r_10 = 0 → (b_X5_choiceOf_209 k165 Q M_8 x2 x3 x4)) ∧ (¬ r_10 = 0 → (w_X5_has M_8 x3 v_6 (fun (r_16 : Int32) (M_14 : Mem) => ((r_16 = 0 → (Q (x3 ||| (1 <<< (v_6 &&& 31))) M_14)) ∧ (¬ r_16 = 0 → (b_X5_choiceOf_209 k165 Q M_14 x2 x3 x4)))))))))))))
def l_X5_choiceOf_165 (Q : Int32 → Mem → Prop) (n : Nat) : Mem → Int32 → Int32 → Int32 → Prop :=
  Nat.rec (motive := fun _ => Mem → Int32 → Int32 → Int32 → Prop) (fun _ _ _ _ => False) (fun _ k => b_X5_choiceOf_165 Q k) n
def b_X5_choiceOf_154 (k42 : Mem → Int32 → Int32 → Int32 → Int32 → Prop) (Q : Int32 → Mem → Prop) (M : Mem) (x1 : Int32) (x2 : Int32) (x4 : Int32) (s0 : Int32) (s1 : Int32) : Prop :=
  (∀ v_21 : Int32, v_21 = (s1 ||| s0) → (∀ v_22 : Int32, v_22 = x4 + 1 → (k42 M x1 x2 v_21 v_22)))
def b_X5_choiceOf_131 (k42 : Mem → Int32 → Int32 → Int32 → Int32 → Prop) (k54 : Mem → Int32 → Int32 → Int32 → Int32 → Int32 → Int32 → Prop) (Q : Int32 → Mem → Prop) (M : Mem) (x1 : Int32) (x2 : Int32) (x3 : Int32) (x4 : Int32) (x6 : Int32) (s0 : Int32) : Prop :=
  (∀ v_29 : Int32, v_29 = x6 + 1 → (k54 M x1 x2 x3 x4 s0 v_29))
def b_X5_choiceOf_129 (k42 : Mem → Int32 → Int32 → Int32 → Int32 → Prop) (k54 : Mem → Int32 → Int32 → Int32 → Int32 → Int32 → Int32 → Prop) (Q : Int32 → Mem → Prop) (M : Mem) (x1 : Int32) (x2 : Int32) (x3 : Int32) (x4 : Int32) (x5 : Int32) (x6 : Int32) : Prop :=
  (b_X5_choiceOf_131 k42 k54 Q M x1 x2 x3 x4 x6 x5)
def b_X5_choiceOf_124 (k42 : Mem → Int32 → Int32 → Int32 → Int32 → Prop) (k54 : Mem → Int32 → Int32 → Int32 → Int32 → Int32 → Int32 → Prop) (Q : Int32 → Mem → Prop) (M : Mem) (x1 : Int32) (x2 : Int32) (x3 : Int32) (x4 : Int32) (x6 : Int32) : Prop :=
  (b_X5_choiceOf_131 k42 k54 Q M x1 x2 x3 x4 x6 x6)
def b_X5_choiceOf_86 (k42 : Mem → Int32 → Int32 → Int32 → Int32 → Prop) (k54 : Mem → Int32 → Int32 → Int32 → Int32 → Int32 → Int32 → Prop) (Q : Int32 → Mem → Prop) (M : Mem) (x1 : Int32) (x2 : Int32) (x3 : Int32) (x4 : Int32) (x5 : Int32) (x6 : Int32) (s0 : Int32) : Prop :=
  ((s0 = 0 → (b_X5_choiceOf_129 k42 k54 Q M x1 x2 x3 x4 x5 x6)) ∧ (¬ s0 = 0 → ((x5 = (-1) → (b_X5_choiceOf_124 k42 k54 Q M x1 x2 x3 x4 x6)) ∧ (¬ x5 = (-1) → (mE M 5 0 = true ∧ (mF M 5 0 14 = true ∧ (w_X5_pair M x1 x6 (fun (r_36 : Int32) (M_34 : Mem) => (mE M_34 44 0 = true ∧ (vp_in r_36 36 ∧ (mE M_34 5 0 = true ∧ (mF M_34 5 0 14 = true ∧ (w_X5_pair M_34 x1 x5 (fun (r_44 : Int32) (M_42 : Mem) => (mE M_42 44 0 = true ∧ (vp_in r_44 36 ∧ (((mI M_34 44 0 r_36.toNatClampNeg) ≤ (mI M_42 44 0 r_44.toNatClampNeg) → (b_X5_choiceOf_129 k42 k54 Q M_42 x1 x2 x3 x4 x5 x6)) ∧ (¬ (mI M_34 44 0 r_36.toNatClampNeg) ≤ (mI M_42 44 0 r_44.toNatClampNeg) → (b_X5_choiceOf_124 k42 k54 Q M_42 x1 x2 x3 x4 x6)))))))))))))))))))
def b_X5_choiceOf_85 (k42 : Mem → Int32 → Int32 → Int32 → Int32 → Prop) (k54 : Mem → Int32 → Int32 → Int32 → Int32 → Int32 → Int32 → Prop) (Q : Int32 → Mem → Prop) (M : Mem) (x1 : Int32) (x2 : Int32) (x3 : Int32) (x4 : Int32) (x5 : Int32) (x6 : Int32) : Prop :=
  (b_X5_choiceOf_86 k42 k54 Q M x1 x2 x3 x4 x5 x6 0)
def b_X5_choiceOf_54 (k42 : Mem → Int32 → Int32 → Int32 → Int32 → Prop) (Q : Int32 → Mem → Prop) (k54 : Mem → Int32 → Int32 → Int32 → Int32 → Int32 → Int32 → Prop) (M : Mem) (x1 : Int32) (x2 : Int32) (x3 : Int32) (x4 : Int32) (x5 : Int32) (x6 : Int32) : Prop :=
  (mE M 5 0 = true ∧ (((mI M 5 0 3) ≤ x6 → ((x5 = (-1) → (b_X5_choiceOf_154 k42 Q M x1 x2 x4 0 x3)) ∧ (¬ x5 = (-1) → (b_X5_choiceOf_154 k42 Q M x1 x2 x4 (1 <<< (x5 &&& 31)) x3)))) ∧ (¬ (mI M 5 0 3) ≤ x6 → (w_X5_has M x2 x6 (fun (r_26 : Int32) (M_24 : Mem) => ((r_26 = 0 → (b_X5_choiceOf_85 k42 k54 Q M_24 x1 x2 x3 x4 x5 x6)) ∧ (¬ r_26 = 0 → (w_X5_has M_24 x3 x6 (fun (r_51 : Int32) (M_49 : Mem) => ((r_51 = 0 → (b_X5_choiceOf_86 k42 k54 Q M_49 x1 x2 x3 x4 x5 x6 1)) ∧ (¬ r_51 = 0 → (b_X5_choiceOf_85 k42 k54 Q M_49 x1 x2 x3 x4 x5 x6))))))))))))
def l_X5_choiceOf_54 (k42 : Mem → Int32 → Int32 → Int32 → Int32 → Prop) (Q : Int32 → Mem → Prop) (n : Nat) : Mem → Int32 → Int32 → Int32 → Int32 → Int32 → Int32 → Prop :=
  Nat.rec (motive := fun _ => Mem → Int32 → Int32 → Int32 → Int32 → Int32 → Int32 → Prop) (fun _ _ _ _ _ _ _ => False) (fun _ k => b_X5_choiceOf_54 k42 Q k) n
def b_X5_choiceOf_42 (Q : Int32 → Mem → Prop) (k42 : Mem → Int32 → Int32 → Int32 → Int32 → Prop) (M : Mem) (x1 : Int32) (x2 : Int32) (x3 : Int32) (x4 : Int32) : Prop :=
  (((2 : Int32) ≤ x4 → (∃ n : Nat, l_X5_choiceOf_165 Q n M x2 x3 0)) ∧ (¬ (2 : Int32) ≤ x4 → (∃ n : Nat, l_X5_choiceOf_54 k42 Q n M x1 x2 x3 x4 (-1) 0)))
def l_X5_choiceOf_42 (Q : Int32 → Mem → Prop) (n : Nat) : Mem → Int32 → Int32 → Int32 → Int32 → Prop :=
  Nat.rec (motive := fun _ => Mem → Int32 → Int32 → Int32 → Int32 → Prop) (fun _ _ _ _ _ => False) (fun _ k => b_X5_choiceOf_42 Q k) n
def b_X5_choiceOf_29 (k4 : Mem → Int32 → Int32 → Int32 → Prop) (Q : Int32 → Mem → Prop) (M : Mem) (x1 : Int32) (x3 : Int32) (s0 : Int32) (s1 : Int32) : Prop :=
  (∀ v_58 : Int32, v_58 = (s1 ||| s0) → (∀ v_59 : Int32, v_59 = x3 + 1 → (k4 M x1 v_58 v_59)))
def b_X5_choiceOf_4 (Q : Int32 → Mem → Prop) (k4 : Mem → Int32 → Int32 → Int32 → Prop) (M : Mem) (x1 : Int32) (x2 : Int32) (x3 : Int32) : Prop :=
  (mE M 5 0 = true ∧ (((mI M 5 0 3) ≤ x3 → (∃ n : Nat, l_X5_choiceOf_42 Q n M x1 x2 0 0)) ∧ (¬ (mI M 5 0 3) ≤ x3 → (w_X5_wants M x3 x1 (fun (r_56 : Int32) (M_54 : Mem) => ((r_56 = 0 → (b_X5_choiceOf_29 k4 Q M_54 x1 x3 0 x2)) ∧ (¬ r_56 = 0 → (b_X5_choiceOf_29 k4 Q M_54 x1 x3 (1 <<< (x3 &&& 31)) x2))))))))
def l_X5_choiceOf_4 (Q : Int32 → Mem → Prop) (n : Nat) : Mem → Int32 → Int32 → Int32 → Prop :=
  Nat.rec (motive := fun _ => Mem → Int32 → Int32 → Int32 → Prop) (fun _ _ _ _ => False) (fun _ k => b_X5_choiceOf_4 Q k) n
def w_X5_choiceOf (M : Mem) (a1 : Int32) (Q : Int32 → Mem → Prop) : Prop :=
  (∃ n : Nat, l_X5_choiceOf_4 Q n M a1 0 0)
def b_X5_looks_81 (k2 : Mem → Int32 → Prop) (k36 : Mem → Int32 → Int32 → Prop) (Q : Mem → Prop) (M : Mem) (x1 : Int32) (x2 : Int32) (s0 : Int32) (s1 : Int32) : Prop :=
  (mE M 47 0 = true ∧ (vp_in s1 36 ∧ (∀ M_26 : Mem, M_26 = wI M 47 0 s1.toNatClampNeg s0 → (∀ v_27 : Int32, v_27 = x2 + 1 → (k36 M_26 x1 v_27)))))
def b_X5_looks_80 (k2 : Mem → Int32 → Prop) (k36 : Mem → Int32 → Int32 → Prop) (Q : Mem → Prop) (M : Mem) (x1 : Int32) (x2 : Int32) (s0 : Int32) : Prop :=
  (b_X5_looks_81 k2 k36 Q M x1 x2 0 s0)
def b_X5_looks_36 (k2 : Mem → Int32 → Prop) (Q : Mem → Prop) (k36 : Mem → Int32 → Int32 → Prop) (M : Mem) (x1 : Int32) (x2 : Int32) : Prop :=
  (mE M 5 0 = true ∧ (((mI M 5 0 3) ≤ x2 → (∀ v_13 : Int32, v_13 = x1 + 1 → (k2 M v_13))) ∧ (¬ (mI M 5 0 3) ≤ x2 → (mF M 5 0 17 = true ∧ (w_X5_pair M x1 x2 (fun (r_18 : Int32) (M_16 : Mem) => (mE M_16 5 0 = true ∧ (mF M_16 5 0 4 = true ∧ (mE M_16 34 0 = true ∧ (vp_in x1 6 ∧ (((mI M_16 34 0 x1.toNatClampNeg) = 0 → (b_X5_looks_80 k2 k36 Q M_16 x1 x2 r_18)) ∧ (¬ (mI M_16 34 0 x1.toNatClampNeg) = 0 → (vp_in x2 6 ∧ (((mI M_16 34 0 x2.toNatClampNeg) = 0 → (b_X5_looks_80 k2 k36 Q M_16 x1 x2 r_18)) ∧ (¬ (mI M_16 34 0 x2.toNatClampNeg) = 0 → (w_X5_shownBy M_16 x1 x2 (fun (r_33 : Int32) (M_31 : Mem) => (b_X5_looks_81 k2 k36 Q M_31 x1 x2 r_33 r_18))))))))))))))))))
def l_X5_looks_36 (k2 : Mem → Int32 → Prop) (Q : Mem → Prop) (n : Nat) : Mem → Int32 → Int32 → Prop :=
  Nat.rec (motive := fun _ => Mem → Int32 → Int32 → Prop) (fun _ _ _ => False) (fun _ k => b_X5_looks_36 k2 Q k) n
def b_X5_looks_33 (k2 : Mem → Int32 → Prop) (Q : Mem → Prop) (M : Mem) (x1 : Int32) (s0 : Int32) (s1 : Int32) : Prop :=
  (mE M 48 0 = true ∧ (vp_in s1 6 ∧ (∀ M_10 : Mem, M_10 = wI M 48 0 s1.toNatClampNeg s0 → (∃ n : Nat, l_X5_looks_36 k2 Q n M_10 x1 0))))
def b_X5_looks_2 (Q : Mem → Prop) (k2 : Mem → Int32 → Prop) (M : Mem) (x1 : Int32) : Prop :=
  (mE M 5 0 = true ∧ (((mI M 5 0 3) ≤ x1 → (Q M)) ∧ (¬ (mI M 5 0 3) ≤ x1 → (mF M 5 0 18 = true ∧ (mF M 5 0 4 = true ∧ (mE M 34 0 = true ∧ (vp_in x1 6 ∧ (((mI M 34 0 x1.toNatClampNeg) = 0 → (b_X5_looks_33 k2 Q M x1 0 x1)) ∧ (¬ (mI M 34 0 x1.toNatClampNeg) = 0 → (w_X5_choiceOf M x1 (fun (r_37 : Int32) (M_35 : Mem) => (b_X5_looks_33 k2 Q M_35 x1 r_37 x1))))))))))))
def l_X5_looks_2 (Q : Mem → Prop) (n : Nat) : Mem → Int32 → Prop :=
  Nat.rec (motive := fun _ => Mem → Int32 → Prop) (fun _ _ => False) (fun _ k => b_X5_looks_2 Q k) n
def w_X5_looks (M : Mem) (Q : Mem → Prop) : Prop :=
  (∃ n : Nat, l_X5_looks_2 Q n M 0)
def w_X5_at (M : Mem) (a0 : Int32) (a1 : Int32) (Q : Int32 → Mem → Prop) : Prop :=
  (Q ((12 * a0) + a1) M)
def b_X5_isBetter_149 (Q : Int32 → Mem → Prop) (M : Mem) : Prop :=
  (Q 1 M)
def b_X5_isBetter_132 (Q : Int32 → Mem → Prop) (M : Mem) (x2 : Int32) (x3 : Int32) (s0 : Int32) : Prop :=
  ((s0 < 0 → (b_X5_isBetter_149 Q M)) ∧ (¬ s0 < 0 → ((s0 = 0 → ((x3 ≤ x2 → (Q 0 M)) ∧ (¬ x3 ≤ x2 → (b_X5_isBetter_149 Q M)))) ∧ (¬ s0 = 0 → (Q 0 M)))))
def b_X5_isBetter_60 (Q : Int32 → Mem → Prop) (M : Mem) (x1 : Int32) (x2 : Int32) (x3 : Int32) (x4 : Int32) (s0 : Int32) : Prop :=
  ((x4 = s0 → (mE M 5 0 = true ∧ (mF M 5 0 2 = true ∧ (mE M 32 0 = true ∧ (vp_in x2 12 ∧ (vp_in x3 12 ∧ (((mI M 32 0 x2.toNatClampNeg) = (mI M 32 0 x3.toNatClampNeg) → (mF M 5 0 7 = true ∧ (mE M 37 0 = true ∧ (vp_in x1 6 ∧ (((mI M 37 0 x1.toNatClampNeg) = 0 → (w_X5_holdersOf M x2 (fun (r_49 : Int32) (M_47 : Mem) => (mE M_47 5 0 = true ∧ (w_X5_holdersOf M_47 x3 (fun (r_54 : Int32) (M_52 : Mem) => (b_X5_isBetter_132 Q M_52 x2 x3 (r_49 - r_54)))))))) ∧ (¬ (mI M 37 0 x1.toNatClampNeg) = 0 → (b_X5_isBetter_132 Q M x2 x3 0))))))) ∧ (¬ (mI M 32 0 x2.toNatClampNeg) = (mI M 32 0 x3.toNatClampNeg) → (vp_in x2 12 ∧ (vp_in x3 12 ∧ (((mI M 32 0 x2.toNatClampNeg) ≤ (mI M 32 0 x3.toNatClampNeg) → (Q 0 M)) ∧ (¬ (mI M 32 0 x2.toNatClampNeg) ≤ (mI M 32 0 x3.toNatClampNeg) → (Q 1 M))))))))))))) ∧ (¬ x4 = s0 → (x4 = 0 ∨ x4 = 1 ∧ (Q x4 M))))
def b_X5_isBetter_29 (Q : Int32 → Mem → Prop) (M : Mem) (x1 : Int32) (x2 : Int32) (x3 : Int32) (s0 : Int32) : Prop :=
  (mE M 5 0 = true ∧ (mF M 5 0 10 = true ∧ (w_X5_at M x1 x3 (fun (r_23 : Int32) (M_21 : Mem) => (mE M_21 40 0 = true ∧ (vp_in r_23 72 ∧ (mE M_21 5 0 = true ∧ (mF M_21 5 0 12 = true ∧ (w_X5_at M_21 x1 x3 (fun (r_31 : Int32) (M_29 : Mem) => (mE M_29 42 0 = true ∧ (vp_in r_31 72 ∧ ((((mI M_21 40 0 r_23.toNatClampNeg) ||| (mI M_29 42 0 r_31.toNatClampNeg)) = 0 → (b_X5_isBetter_60 Q M_29 x1 x2 x3 s0 0)) ∧ (¬ ((mI M_21 40 0 r_23.toNatClampNeg) ||| (mI M_29 42 0 r_31.toNatClampNeg)) = 0 → (b_X5_isBetter_60 Q M_29 x1 x2 x3 s0 1)))))))))))))))
def w_X5_isBetter (M : Mem) (a1 : Int32) (a2 : Int32) (a3 : Int32) (Q : Int32 → Mem → Prop) : Prop :=
  (mE M 5 0 = true ∧ (mF M 5 0 10 = true ∧ (w_X5_at M a1 a2 (fun (r_6 : Int32) (M_4 : Mem) => (mE M_4 40 0 = true ∧ (vp_in r_6 72 ∧ (mE M_4 5 0 = true ∧ (mF M_4 5 0 12 = true ∧ (w_X5_at M_4 a1 a2 (fun (r_14 : Int32) (M_12 : Mem) => (mE M_12 42 0 = true ∧ (vp_in r_14 72 ∧ ((((mI M_4 40 0 r_6.toNatClampNeg) ||| (mI M_12 42 0 r_14.toNatClampNeg)) = 0 → (b_X5_isBetter_29 Q M_12 a1 a2 a3 0)) ∧ (¬ ((mI M_4 40 0 r_6.toNatClampNeg) ||| (mI M_12 42 0 r_14.toNatClampNeg)) = 0 → (b_X5_isBetter_29 Q M_12 a1 a2 a3 1)))))))))))))))
def b_X5_lowest_2 (Q : Int32 → Mem → Prop) (k2 : Mem → Int32 → Int32 → Prop) (M : Mem) (x0 : Int32) (x1 : Int32) : Prop :=
  (w_X5_has M x0 x1 (fun (r_4 : Int32) (M_2 : Mem) => ((r_4 = 0 → (∀ v_6 : Int32, v_6 = x1 + 1 → (k2 M_2 x0 v_6))) ∧ (¬ r_4 = 0 → (Q x1 M_2)))))
def l_X5_lowest_2 (Q : Int32 → Mem → Prop) (n : Nat) : Mem → Int32 → Int32 → Prop :=
  Nat.rec (motive := fun _ => Mem → Int32 → Int32 → Prop) (fun _ _ _ => False) (fun _ k => b_X5_lowest_2 Q k) n
def w_X5_lowest (M : Mem) (a0 : Int32) (Q : Int32 → Mem → Prop) : Prop :=
  (∃ n : Nat, l_X5_lowest_2 Q n M a0 0)
def b_X5_hasAskedAll_64 (k11 : Mem → Int32 → Int32 → Int32 → Int32 → Prop) (Q : Int32 → Mem → Prop) (M : Mem) (x1 : Int32) (x2 : Int32) (x4 : Int32) (s0 : Int32) : Prop :=
  (∀ v_9 : Int32, v_9 = x4 + 1 → (k11 M x1 x2 s0 v_9))
def b_X5_hasAskedAll_63 (k11 : Mem → Int32 → Int32 → Int32 → Int32 → Prop) (Q : Int32 → Mem → Prop) (M : Mem) (x1 : Int32) (x2 : Int32) (x4 : Int32) : Prop :=
  (b_X5_hasAskedAll_64 k11 Q M x1 x2 x4 0)
def b_X5_hasAskedAll_59 (k11 : Mem → Int32 → Int32 → Int32 → Int32 → Prop) (Q : Int32 → Mem → Prop) (M : Mem) (x1 : Int32) (x2 : Int32) (x4 : Int32) : Prop :=
  (b_X5_hasAskedAll_64 k11 Q M x1 x2 x4 1)
def b_X5_hasAskedAll_11 (Q : Int32 → Mem → Prop) (k11 : Mem → Int32 → Int32 → Int32 → Int32 → Prop) (M : Mem) (x1 : Int32) (x2 : Int32) (x3 : Int32) (x4 : Int32) : Prop :=
  (((12 : Int32) ≤ x4 → (x3 = 0 ∨ x3 = 1 ∧ (Q x3 M))) ∧ (¬ (12 : Int32) ≤ x4 → ((x3 = 0 → (b_X5_hasAskedAll_63 k11 Q M x1 x2 x4)) ∧ (¬ x3 = 0 → (w_X5_has M x2 x4 (fun (r_13 : Int32) (M_11 : Mem) => ((r_13 = 0 → (b_X5_hasAskedAll_59 k11 Q M_11 x1 x2 x4)) ∧ (¬ r_13 = 0 → (mE M_11 5 0 = true ∧ (mF M_11 5 0 10 = true ∧ (w_X5_at M_11 x1 x4 (fun (r_20 : Int32) (M_18 : Mem) => (mE M_18 40 0 = true ∧ (vp_in r_20 72 ∧ (mE M_18 5 0 = true ∧ (mF M_18 5 0 12 = true ∧ (w_X5_at M_18 x1 x4 (fun (r_28 : Int32) (M_26 : Mem) => (mE M_26 42 0 = true ∧ (vp_in r_28 72 ∧ ((((mI M_18 40 0 r_20.toNatClampNeg) ||| (mI M_26 42 0 r_28.toNatClampNeg)) = 15 → (b_X5_hasAskedAll_59 k11 Q M_26 x1 x2 x4)) ∧ (¬ ((mI M_18 40 0 r_20.toNatClampNeg) ||| (mI M_26 42 0 r_28.toNatClampNeg)) = 15 → (b_X5_hasAskedAll_63 k11 Q M_26 x1 x2 x4)))))))))))))))))))))))
def l_X5_hasAskedAll_11 (Q : Int32 → Mem → Prop) (n : Nat) : Mem → Int32 → Int32 → Int32 → Int32 → Prop :=
  Nat.rec (motive := fun _ => Mem → Int32 → Int32 → Int32 → Int32 → Prop) (fun _ _ _ _ _ => False) (fun _ k => b_X5_hasAskedAll_11 Q k) n
def w_X5_hasAskedAll (M : Mem) (a1 : Int32) (Q : Int32 → Mem → Prop) : Prop :=
  (mE M 5 0 = true ∧ (w_X5_lackedBy M a1 (fun (r_5 : Int32) (M_3 : Mem) => (∃ n : Nat, l_X5_hasAskedAll_11 Q n M_3 a1 r_5 1 0))))
def b_X5_blockFor_141 (k27 : Mem → Int32 → Int32 → Int32 → Int32 → Int32 → Prop) (Q : Int32 → Mem → Prop) (M : Mem) (x1 : Int32) (x3 : Int32) (x4 : Int32) (x6 : Int32) (s0 : Int32) : Prop :=
  (∀ v_59 : Int32, v_59 = x6 + (-1) → (k27 M x1 x3 x4 s0 v_59))
def b_X5_blockFor_119 (k27 : Mem → Int32 → Int32 → Int32 → Int32 → Int32 → Prop) (Q : Int32 → Mem → Prop) (M : Mem) (x1 : Int32) (x3 : Int32) (x5 : Int32) (x6 : Int32) (x7 : Int32) (s0 : Int32) : Prop :=
  ((x7 = 0 → (b_X5_blockFor_141 k27 Q M x1 x3 s0 x6 x5)) ∧ (¬ x7 = 0 → (w_X5_lowest M x7 (fun (r_63 : Int32) (M_61 : Mem) => (b_X5_blockFor_141 k27 Q M_61 x1 x3 s0 x6 ((4 * x6) + r_63))))))
def b_X5_blockFor_117 (k27 : Mem → Int32 → Int32 → Int32 → Int32 → Int32 → Prop) (Q : Int32 → Mem → Prop) (M : Mem) (x1 : Int32) (x3 : Int32) (x4 : Int32) (x5 : Int32) (x6 : Int32) (x7 : Int32) : Prop :=
  (b_X5_blockFor_119 k27 Q M x1 x3 x5 x6 x7 x4)
def b_X5_blockFor_112 (k27 : Mem → Int32 → Int32 → Int32 → Int32 → Int32 → Prop) (Q : Int32 → Mem → Prop) (M : Mem) (x1 : Int32) (x3 : Int32) (x5 : Int32) (x6 : Int32) (x7 : Int32) : Prop :=
  (b_X5_blockFor_119 k27 Q M x1 x3 x5 x6 x7 x6)
def b_X5_blockFor_87 (k27 : Mem → Int32 → Int32 → Int32 → Int32 → Int32 → Prop) (Q : Int32 → Mem → Prop) (M : Mem) (x1 : Int32) (x3 : Int32) (x4 : Int32) (x5 : Int32) (x6 : Int32) (x7 : Int32) (s0 : Int32) : Prop :=
  ((s0 = 0 → (b_X5_blockFor_117 k27 Q M x1 x3 x4 x5 x6 x7)) ∧ (¬ s0 = 0 → ((x4 = (-1) → (b_X5_blockFor_112 k27 Q M x1 x3 x5 x6 x7)) ∧ (¬ x4 = (-1) → (mE M 5 0 = true ∧ (w_X5_isBetter M x1 x6 x4 (fun (r_69 : Int32) (M_67 : Mem) => ((r_69 = 0 → (b_X5_blockFor_117 k27 Q M_67 x1 x3 x4 x5 x6 x7)) ∧ (¬ r_69 = 0 → (b_X5_blockFor_112 k27 Q M_67 x1 x3 x5 x6 x7))))))))))
def b_X5_blockFor_61 (k27 : Mem → Int32 → Int32 → Int32 → Int32 → Int32 → Prop) (Q : Int32 → Mem → Prop) (M : Mem) (x1 : Int32) (x3 : Int32) (x4 : Int32) (x5 : Int32) (x6 : Int32) (s0 : Int32) : Prop :=
  (mE M 5 0 = true ∧ (mF M 5 0 12 = true ∧ (w_X5_at M x1 x6 (fun (r_53 : Int32) (M_51 : Mem) => (mE M_51 42 0 = true ∧ (vp_in r_53 72 ∧ (((s0 &&& ((mI M_51 42 0 r_53.toNatClampNeg) ^^^ (-1))) = 0 → (b_X5_blockFor_87 k27 Q M_51 x1 x3 x4 x5 x6 s0 0)) ∧ (¬ (s0 &&& ((mI M_51 42 0 r_53.toNatClampNeg) ^^^ (-1))) = 0 → (b_X5_blockFor_87 k27 Q M_51 x1 x3 x4 x5 x6 s0 1)))))))))
def b_X5_blockFor_27 (Q : Int32 → Mem → Prop) (k27 : Mem → Int32 → Int32 → Int32 → Int32 → Int32 → Prop) (M : Mem) (x1 : Int32) (x3 : Int32) (x4 : Int32) (x5 : Int32) (x6 : Int32) : Prop :=
  ((x6 < 0 → ((x4 = (-1) → (mE M 5 0 = true ∧ (w_X5_hasAskedAll M x1 (fun (r_21 : Int32) (M_19 : Mem) => ((r_21 = 0 → (Q (-1) M_19)) ∧ (¬ r_21 = 0 → (Q x5 M_19))))))) ∧ (¬ x4 = (-1) → (mE M 5 0 = true ∧ (mF M 5 0 10 = true ∧ (w_X5_at M x1 x4 (fun (r_28 : Int32) (M_26 : Mem) => (mE M_26 40 0 = true ∧ (vp_in r_28 72 ∧ (mE M_26 5 0 = true ∧ (mF M_26 5 0 12 = true ∧ (w_X5_at M_26 x1 x4 (fun (r_36 : Int32) (M_34 : Mem) => (mE M_34 42 0 = true ∧ (vp_in r_36 72 ∧ (w_X5_lowest M_34 ((15 &&& ((mI M_26 40 0 r_28.toNatClampNeg) ^^^ (-1))) &&& ((mI M_34 42 0 r_36.toNatClampNeg) ^^^ (-1))) (fun (r_42 : Int32) (M_40 : Mem) => (Q ((4 * x4) + r_42) M_40)))))))))))))))))) ∧ (¬ x6 < 0 → (w_X5_has M x3 x6 (fun (r_46 : Int32) (M_44 : Mem) => ((r_46 = 0 → (b_X5_blockFor_61 k27 Q M_44 x1 x3 x4 x5 x6 0)) ∧ (¬ r_46 = 0 → (mE M_44 5 0 = true ∧ (mF M_44 5 0 10 = true ∧ (w_X5_at M_44 x1 x6 (fun (r_76 : Int32) (M_74 : Mem) => (mE M_74 40 0 = true ∧ (vp_in r_76 72 ∧ (b_X5_blockFor_61 k27 Q M_74 x1 x3 x4 x5 x6 (15 &&& ((mI M_74 40 0 r_76.toNatClampNeg) ^^^ (-1))))))))))))))))
def l_X5_blockFor_27 (Q : Int32 → Mem → Prop) (n : Nat) : Mem → Int32 → Int32 → Int32 → Int32 → Int32 → Prop :=
  Nat.rec (motive := fun _ => Mem → Int32 → Int32 → Int32 → Int32 → Int32 → Prop) (fun _ _ _ _ _ _ => False) (fun _ k => b_X5_blockFor_27 Q k) n
def w_X5_blockFor (M : Mem) (a1 : Int32) (a2 : Int32) (Q : Int32 → Mem → Prop) : Prop :=
  (mE M 5 0 = true ∧ (mF M 5 0 17 = true ∧ (w_X5_pair M a2 a1 (fun (r_6 : Int32) (M_4 : Mem) => (mE M_4 47 0 = true ∧ (vp_in r_6 36 ∧ (mE M_4 5 0 = true ∧ (w_X5_lackedBy M_4 a1 (fun (r_13 : Int32) (M_11 : Mem) => (∀ v_14 : Int32, v_14 = ((mI M_4 47 0 r_6.toNatClampNeg) &&& r_13) → (∃ n : Nat, l_X5_blockFor_27 Q n M_11 a1 v_14 (-1) (-1) 11)))))))))))
def b_X5_asks_135 (k28 : Mem → Int32 → Prop) (k38 : Mem → Int32 → Int32 → Prop) (Q : Mem → Prop) (M : Mem) (x1 : Int32) (x2 : Int32) : Prop :=
  (∀ v_18 : Int32, v_18 = x2 + 1 → (k38 M x1 v_18))
def b_X5_asks_69 (k28 : Mem → Int32 → Prop) (k38 : Mem → Int32 → Int32 → Prop) (Q : Mem → Prop) (M : Mem) (x1 : Int32) (x2 : Int32) (s0 : Int32) : Prop :=
  ((s0 = (-1) → (b_X5_asks_135 k28 k38 Q M x1 x2)) ∧ (¬ s0 = (-1) → (mE M 5 0 = true ∧ (mF M 5 0 12 = true ∧ (w_X5_at M x1 (s0 / 4) (fun (r_24 : Int32) (M_22 : Mem) => (mE M_22 42 0 = true ∧ (vp_in r_24 72 ∧ (vp_in r_24 72 ∧ (∀ M_28 : Mem, M_28 = wI M_22 42 0 r_24.toNatClampNeg ((mI M_22 42 0 r_24.toNatClampNeg) ||| (1 <<< ((s0 - s0 / 4 * 4) &&& 31))) → (mE M_28 5 0 = true ∧ (mF M_28 5 0 20 = true ∧ (mE M_28 50 0 = true ∧ (vp_in (mI M_28 5 0 19) 36 ∧ (∀ M_33 : Mem, M_33 = wI M_28 50 0 ((mI M_28 5 0 19).toNatClampNeg) x1 → (mF M_33 5 0 21 = true ∧ (mE M_33 51 0 = true ∧ (vp_in (mI M_33 5 0 19) 36 ∧ (∀ M_37 : Mem, M_37 = wI M_33 51 0 ((mI M_33 5 0 19).toNatClampNeg) x2 → (mF M_37 5 0 22 = true ∧ (mE M_37 52 0 = true ∧ (vp_in (mI M_37 5 0 19) 36 ∧ (∀ M_41 : Mem, M_41 = wI M_37 52 0 ((mI M_37 5 0 19).toNatClampNeg) s0 → (∀ M_42 : Mem, M_42 = wI M_41 5 0 19 ((mI M_41 5 0 19) + 1) → (b_X5_asks_135 k28 k38 Q M_42 x1 x2)))))))))))))))))))))))))
def b_X5_asks_38 (k28 : Mem → Int32 → Prop) (Q : Mem → Prop) (k38 : Mem → Int32 → Int32 → Prop) (M : Mem) (x1 : Int32) (x2 : Int32) : Prop :=
  (mE M 5 0 = true ∧ (((mI M 5 0 3) ≤ x2 → (∀ v_8 : Int32, v_8 = x1 + 1 → (k28 M v_8))) ∧ (¬ (mI M 5 0 3) ≤ x2 → (mF M 5 0 18 = true ∧ (mE M 48 0 = true ∧ (vp_in x2 6 ∧ (w_X5_has M (mI M 48 0 x2.toNatClampNeg) x1 (fun (r_15 : Int32) (M_13 : Mem) => ((r_15 = 0 → (b_X5_asks_69 k28 k38 Q M_13 x1 x2 (-1))) ∧ (¬ r_15 = 0 → (mE M_13 5 0 = true ∧ (w_X5_blockFor M_13 x1 x2 (fun (r_47 : Int32) (M_45 : Mem) => (b_X5_asks_69 k28 k38 Q M_45 x1 x2 r_47))))))))))))))
def l_X5_asks_38 (k28 : Mem → Int32 → Prop) (Q : Mem → Prop) (n : Nat) : Mem → Int32 → Int32 → Prop :=
  Nat.rec (motive := fun _ => Mem → Int32 → Int32 → Prop) (fun _ _ _ => False) (fun _ k => b_X5_asks_38 k28 Q k) n
def b_X5_asks_28 (Q : Mem → Prop) (k28 : Mem → Int32 → Prop) (M : Mem) (x1 : Int32) : Prop :=
  (mE M 5 0 = true ∧ (((mI M 5 0 3) ≤ x1 → (Q M)) ∧ (¬ (mI M 5 0 3) ≤ x1 → (∃ n : Nat, l_X5_asks_38 k28 Q n M x1 0))))
def l_X5_asks_28 (Q : Mem → Prop) (n : Nat) : Mem → Int32 → Prop :=
  Nat.rec (motive := fun _ => Mem → Int32 → Prop) (fun _ _ => False) (fun _ k => b_X5_asks_28 Q k) n
def b_X5_asks_7 (Q : Mem → Prop) (k7 : Mem → Int32 → Prop) (M : Mem) (x1 : Int32) : Prop :=
  (((72 : Int32) ≤ x1 → (∃ n : Nat, l_X5_asks_28 Q n M 0)) ∧ (¬ (72 : Int32) ≤ x1 → (mE M 5 0 = true ∧ (mF M 5 0 12 = true ∧ (mE M 42 0 = true ∧ (vp_in x1 72 ∧ (∀ M_52 : Mem, M_52 = wI M 42 0 x1.toNatClampNeg 0 → (∀ v_53 : Int32, v_53 = x1 + 1 → (k7 M_52 v_53)))))))))
def l_X5_asks_7 (Q : Mem → Prop) (n : Nat) : Mem → Int32 → Prop :=
  Nat.rec (motive := fun _ => Mem → Int32 → Prop) (fun _ _ => False) (fun _ k => b_X5_asks_7 Q k) n
def w_X5_asks (M : Mem) (Q : Mem → Prop) : Prop :=
  (mE M 5 0 = true ∧ (∀ M_2 : Mem, M_2 = wI M 5 0 19 0 → (∃ n : Nat, l_X5_asks_7 Q n M_2 0)))
def b_X5_comes_198 (k25 : Mem → Int32 → Int32 → Prop) (Q : Int32 → Mem → Prop) (M : Mem) (x1 : Int32) (x2 : Int32) : Prop :=
  (∀ v_70 : Int32, v_70 = x2 + 1 → (k25 M x1 v_70))
def b_X5_comes_142 (k25 : Mem → Int32 → Int32 → Prop) (Q : Int32 → Mem → Prop) (M : Mem) (x1 : Int32) (x2 : Int32) (s0 : Int32) (s1 : Int32) (s2 : Int32) : Prop :=
  (mE M 41 0 = true ∧ (vp_in s2 72 ∧ (∀ M_43 : Mem, M_43 = wI M 41 0 s2.toNatClampNeg (s1 ||| s0) → (mE M_43 5 0 = true ∧ (mF M_43 5 0 13 = true ∧ (mF M_43 5 0 20 = true ∧ (mE M_43 50 0 = true ∧ (vp_in x2 36 ∧ (mF M_43 5 0 22 = true ∧ (mE M_43 52 0 = true ∧ (vp_in x2 36 ∧ (mF M_43 5 0 21 = true ∧ (mE M_43 51 0 = true ∧ (vp_in x2 36 ∧ (mE M_43 43 0 = true ∧ (vp_in ((48 * (mI M_43 50 0 x2.toNatClampNeg)) + (mI M_43 52 0 x2.toNatClampNeg)) 288 ∧ (∀ M_57 : Mem, M_57 = wI M_43 43 0 (((48 * (mI M_43 50 0 x2.toNatClampNeg)) + (mI M_43 52 0 x2.toNatClampNeg)).toNatClampNeg) (mI M_43 51 0 x2.toNatClampNeg) → (mF M_57 5 0 14 = true ∧ (vp_in x2 36 ∧ (vp_in x2 36 ∧ (w_X5_pair M_57 (mI M_57 50 0 x2.toNatClampNeg) (mI M_57 51 0 x2.toNatClampNeg) (fun (r_64 : Int32) (M_62 : Mem) => (mE M_62 44 0 = true ∧ (vp_in r_64 36 ∧ (vp_in r_64 36 ∧ (∀ M_68 : Mem, M_68 = wI M_62 44 0 r_64.toNatClampNeg ((mI M_62 44 0 r_64.toNatClampNeg) + 1) → (∀ v_69 : Int32, v_69 = x1 + 1 → (b_X5_comes_198 k25 Q M_68 v_69 x2))))))))))))))))))))))))))))
def b_X5_comes_25 (Q : Int32 → Mem → Prop) (k25 : Mem → Int32 → Int32 → Prop) (M : Mem) (x1 : Int32) (x2 : Int32) : Prop :=
  (mE M 5 0 = true ∧ (((mI M 5 0 19) ≤ x2 → (Q x1 M)) ∧ (¬ (mI M 5 0 19) ≤ x2 → (mF M 5 0 20 = true ∧ (mE M 50 0 = true ∧ (vp_in x2 36 ∧ (mF M 5 0 22 = true ∧ (mE M 52 0 = true ∧ (vp_in x2 36 ∧ (w_X5_at M (mI M 50 0 x2.toNatClampNeg) ((mI M 52 0 x2.toNatClampNeg) / 4) (fun (r_13 : Int32) (M_11 : Mem) => (mE M_11 5 0 = true ∧ (mF M_11 5 0 22 = true ∧ (mE M_11 52 0 = true ∧ (vp_in x2 36 ∧ (∀ v_18 : Int32, v_18 = (1 <<< (((mI M_11 52 0 x2.toNatClampNeg) - (mI M_11 52 0 x2.toNatClampNeg) / 4 * 4) &&& 31)) → (mF M_11 5 0 10 = true ∧ (mE M_11 40 0 = true ∧ (vp_in r_13 72 ∧ ((((mI M_11 40 0 r_13.toNatClampNeg) &&& v_18) = 0 → (vp_in r_13 72 ∧ (vp_in r_13 72 ∧ (∀ M_25 : Mem, M_25 = wI M_11 40 0 r_13.toNatClampNeg ((mI M_11 40 0 r_13.toNatClampNeg) ||| v_18) → (mF M_25 5 0 11 = true ∧ (mE M_25 41 0 = true ∧ (vp_in r_13 72 ∧ (mF M_25 5 0 8 = true ∧ (mF M_25 5 0 21 = true ∧ (mE M_25 51 0 = true ∧ (vp_in x2 36 ∧ (mE M_25 38 0 = true ∧ (vp_in (mI M_25 51 0 x2.toNatClampNeg) 6 ∧ (vp_in x2 36 ∧ (w_X5_has M_25 (mI M_25 38 0 ((mI M_25 51 0 x2.toNatClampNeg).toNatClampNeg)) ((mI M_25 52 0 x2.toNatClampNeg) / 4) (fun (r_39 : Int32) (M_37 : Mem) => ((r_39 = 0 → (b_X5_comes_142 k25 Q M_37 x1 x2 0 (mI M_25 41 0 r_13.toNatClampNeg) r_13)) ∧ (¬ r_39 = 0 → (b_X5_comes_142 k25 Q M_37 x1 x2 v_18 (mI M_25 41 0 r_13.toNatClampNeg) r_13))))))))))))))))))) ∧ (¬ ((mI M_11 40 0 r_13.toNatClampNeg) &&& v_18) = 0 → (mF M_11 5 0 9 = true ∧ (mF M_11 5 0 20 = true ∧ (mE M_11 50 0 = true ∧ (vp_in x2 36 ∧ (mE M_11 39 0 = true ∧ (vp_in (mI M_11 50 0 x2.toNatClampNeg) 6 ∧ (vp_in (mI M_11 50 0 x2.toNatClampNeg) 6 ∧ (∀ M_78 : Mem, M_78 = wI M_11 39 0 ((mI M_11 50 0 x2.toNatClampNeg).toNatClampNeg) ((mI M_11 39 0 ((mI M_11 50 0 x2.toNatClampNeg).toNatClampNeg)) + 1) → (b_X5_comes_198 k25 Q M_78 x1 x2))))))))))))))))))))))))))))))
def l_X5_comes_25 (Q : Int32 → Mem → Prop) (n : Nat) : Mem → Int32 → Int32 → Prop :=
  Nat.rec (motive := fun _ => Mem → Int32 → Int32 → Prop) (fun _ _ _ => False) (fun _ k => b_X5_comes_25 Q k) n
def b_X5_comes_4 (Q : Int32 → Mem → Prop) (k4 : Mem → Int32 → Int32 → Prop) (M : Mem) (x1 : Int32) (x2 : Int32) : Prop :=
  (((36 : Int32) ≤ x2 → (∃ n : Nat, l_X5_comes_25 Q n M x1 0)) ∧ (¬ (36 : Int32) ≤ x2 → (mE M 5 0 = true ∧ (mF M 5 0 14 = true ∧ (mE M 44 0 = true ∧ (vp_in x2 36 ∧ (∀ M_83 : Mem, M_83 = wI M 44 0 x2.toNatClampNeg 0 → (∀ v_84 : Int32, v_84 = x2 + 1 → (k4 M_83 x1 v_84)))))))))
def l_X5_comes_4 (Q : Int32 → Mem → Prop) (n : Nat) : Mem → Int32 → Int32 → Prop :=
  Nat.rec (motive := fun _ => Mem → Int32 → Int32 → Prop) (fun _ _ _ => False) (fun _ k => b_X5_comes_4 Q k) n
def w_X5_comes (M : Mem) (Q : Int32 → Mem → Prop) : Prop :=
  (∃ n : Nat, l_X5_comes_4 Q n M 0 0)
def b_X5_drops_123 (k2 : Mem → Int32 → Int32 → Int32 → Prop) (Q : Mem → Prop) (M : Mem) (x1 : Int32) (x2 : Int32) (x3 : Int32) (s0 : Int32) (s1 : Int32) : Prop :=
  (mE M 46 0 = true ∧ (vp_in s1 36 ∧ (s0 = 0 ∨ s0 = 1 ∧ (∀ M_40 : Mem, M_40 = wI M 46 0 s1.toNatClampNeg s0 → (∀ v_42 : Int32, v_42 = x3 + 1 → (k2 M_40 x1 x2 v_42))))))
def b_X5_drops_118 (k2 : Mem → Int32 → Int32 → Int32 → Prop) (Q : Mem → Prop) (M : Mem) (x1 : Int32) (x2 : Int32) (x3 : Int32) (s0 : Int32) : Prop :=
  (b_X5_drops_123 k2 Q M x1 x2 x3 1 s0)
def b_X5_drops_83 (k2 : Mem → Int32 → Int32 → Int32 → Prop) (Q : Mem → Prop) (M : Mem) (x1 : Int32) (x2 : Int32) (x3 : Int32) (x4 : Int32) (x5 : Int32) (s0 : Int32) (s1 : Int32) (s2 : Int32) : Prop :=
  (mE M 45 0 = true ∧ (vp_in s2 36 ∧ (∀ M_32 : Mem, M_32 = wI M 45 0 s2.toNatClampNeg (s1 + s0) → (mE M_32 5 0 = true ∧ (mF M_32 5 0 16 = true ∧ (mE M_32 46 0 = true ∧ (vp_in x5 36 ∧ (((mI M_32 46 0 x5.toNatClampNeg) = 0 → ((x4 = 4 → (b_X5_drops_118 k2 Q M_32 x1 x2 x3 x5)) ∧ (¬ x4 = 4 → (mF M_32 5 0 15 = true ∧ (vp_in x5 36 ∧ (((mI M_32 45 0 x5.toNatClampNeg) < 3 → (b_X5_drops_123 k2 Q M_32 x1 x2 x3 0 x5)) ∧ (¬ (mI M_32 45 0 x5.toNatClampNeg) < 3 → (b_X5_drops_118 k2 Q M_32 x1 x2 x3 x5)))))))) ∧ (¬ (mI M_32 46 0 x5.toNatClampNeg) = 0 → (b_X5_drops_118 k2 Q M_32 x1 x2 x3 x5))))))))))
def b_X5_drops_49 (k2 : Mem → Int32 → Int32 → Int32 → Prop) (k16 : Mem → Int32 → Int32 → Int32 → Int32 → Int32 → Prop) (Q : Mem → Prop) (M : Mem) (x1 : Int32) (x2 : Int32) (x3 : Int32) (x5 : Int32) (s0 : Int32) (s1 : Int32) : Prop :=
  (∀ v_52 : Int32, v_52 = (s1 + s0) → (∀ v_53 : Int32, v_53 = x5 + 1 → (k16 M x1 x2 x3 v_52 v_53)))
def b_X5_drops_16 (k2 : Mem → Int32 → Int32 → Int32 → Prop) (Q : Mem → Prop) (k16 : Mem → Int32 → Int32 → Int32 → Int32 → Int32 → Prop) (M : Mem) (x1 : Int32) (x2 : Int32) (x3 : Int32) (x4 : Int32) (x5 : Int32) : Prop :=
  (((4 : Int32) ≤ x5 → (w_X5_pair M x1 x3 (fun (r_24 : Int32) (M_22 : Mem) => (mE M_22 5 0 = true ∧ (mF M_22 5 0 15 = true ∧ (mE M_22 45 0 = true ∧ (vp_in r_24 36 ∧ ((x4 ≤ 0 → (b_X5_drops_83 k2 Q M_22 x1 x2 x3 x4 r_24 0 (mI M_22 45 0 r_24.toNatClampNeg) r_24)) ∧ (¬ x4 ≤ 0 → (b_X5_drops_83 k2 Q M_22 x1 x2 x3 x4 r_24 1 (mI M_22 45 0 r_24.toNatClampNeg) r_24)))))))))) ∧ (¬ (4 : Int32) ≤ x5 → (mE M 5 0 = true ∧ (mF M 5 0 13 = true ∧ (mE M 43 0 = true ∧ (vp_in (((48 * x1) + (4 * x2)) + x5) 288 ∧ (((mI M 43 0 ((((48 * x1) + (4 * x2)) + x5).toNatClampNeg)) = x3 → (b_X5_drops_49 k2 k16 Q M x1 x2 x3 x5 1 x4)) ∧ (¬ (mI M 43 0 ((((48 * x1) + (4 * x2)) + x5).toNatClampNeg)) = x3 → (b_X5_drops_49 k2 k16 Q M x1 x2 x3 x5 0 x4)))))))))
def l_X5_drops_16 (k2 : Mem → Int32 → Int32 → Int32 → Prop) (Q : Mem → Prop) (n : Nat) : Mem → Int32 → Int32 → Int32 → Int32 → Int32 → Prop :=
  Nat.rec (motive := fun _ => Mem → Int32 → Int32 → Int32 → Int32 → Int32 → Prop) (fun _ _ _ _ _ _ => False) (fun _ k => b_X5_drops_16 k2 Q k) n
def b_X5_drops_2 (Q : Mem → Prop) (k2 : Mem → Int32 → Int32 → Int32 → Prop) (M : Mem) (x1 : Int32) (x2 : Int32) (x3 : Int32) : Prop :=
  (mE M 5 0 = true ∧ (((mI M 5 0 3) ≤ x3 → (mF M 5 0 10 = true ∧ (w_X5_at M x1 x2 (fun (r_7 : Int32) (M_5 : Mem) => (mE M_5 40 0 = true ∧ (vp_in r_7 72 ∧ (∀ M_10 : Mem, M_10 = wI M_5 40 0 r_7.toNatClampNeg 0 → (mE M_10 5 0 = true ∧ (mF M_10 5 0 11 = true ∧ (w_X5_at M_10 x1 x2 (fun (r_16 : Int32) (M_14 : Mem) => (mE M_14 41 0 = true ∧ (vp_in r_16 72 ∧ (∀ M_19 : Mem, M_19 = wI M_14 41 0 r_16.toNatClampNeg 0 → (Q M_19))))))))))))))) ∧ (¬ (mI M 5 0 3) ≤ x3 → (∃ n : Nat, l_X5_drops_16 k2 Q n M x1 x2 x3 0 0))))
def l_X5_drops_2 (Q : Mem → Prop) (n : Nat) : Mem → Int32 → Int32 → Int32 → Prop :=
  Nat.rec (motive := fun _ => Mem → Int32 → Int32 → Int32 → Prop) (fun _ _ _ _ => False) (fun _ k => b_X5_drops_2 Q k) n
def w_X5_drops (M : Mem) (a1 : Int32) (a2 : Int32) (Q : Mem → Prop) : Prop :=
  (∃ n : Nat, l_X5_drops_2 Q n M a1 a2 0)
def b_X5_ends_83 (k2 : Mem → Int32 → Prop) (k12 : Mem → Int32 → Int32 → Prop) (Q : Mem → Prop) (M : Mem) (x1 : Int32) (x2 : Int32) : Prop :=
  (∀ v_19 : Int32, v_19 = x2 + 1 → (k12 M x1 v_19))
def b_X5_ends_53 (k2 : Mem → Int32 → Prop) (k12 : Mem → Int32 → Int32 → Prop) (Q : Mem → Prop) (M : Mem) (x1 : Int32) (x2 : Int32) (x3 : Int32) : Prop :=
  (mE M 5 0 = true ∧ (mF M 5 0 10 = true ∧ (mE M 40 0 = true ∧ (vp_in x3 72 ∧ (((mI M 40 0 x3.toNatClampNeg) = 15 → (mF M 5 0 5 = true ∧ (mE M 35 0 = true ∧ (vp_in x1 6 ∧ (vp_in x1 6 ∧ (∀ M_24 : Mem, M_24 = wI M 35 0 x1.toNatClampNeg ((mI M 35 0 x1.toNatClampNeg) ||| (1 <<< (x2 &&& 31))) → (vp_in x3 72 ∧ (∀ M_26 : Mem, M_26 = wI M_24 40 0 x3.toNatClampNeg 0 → (b_X5_ends_83 k2 k12 Q M_26 x1 x2))))))))) ∧ (¬ (mI M 40 0 x3.toNatClampNeg) = 15 → (b_X5_ends_83 k2 k12 Q M x1 x2)))))))
def b_X5_ends_12 (k2 : Mem → Int32 → Prop) (Q : Mem → Prop) (k12 : Mem → Int32 → Int32 → Prop) (M : Mem) (x1 : Int32) (x2 : Int32) : Prop :=
  (((12 : Int32) ≤ x2 → (∀ v_4 : Int32, v_4 = x1 + 1 → (k2 M v_4))) ∧ (¬ (12 : Int32) ≤ x2 → (w_X5_at M x1 x2 (fun (r_8 : Int32) (M_6 : Mem) => (mE M_6 5 0 = true ∧ (mF M_6 5 0 10 = true ∧ (mE M_6 40 0 = true ∧ (vp_in r_8 72 ∧ (((mI M_6 40 0 r_8.toNatClampNeg) = 15 → (mF M_6 5 0 11 = true ∧ (mE M_6 41 0 = true ∧ (vp_in r_8 72 ∧ (((mI M_6 41 0 r_8.toNatClampNeg) = 0 → (b_X5_ends_53 k2 k12 Q M_6 x1 x2 r_8)) ∧ (¬ (mI M_6 41 0 r_8.toNatClampNeg) = 0 → (w_X5_drops M_6 x1 x2 (fun (M_32 : Mem) => (b_X5_ends_83 k2 k12 Q M_32 x1 x2))))))))) ∧ (¬ (mI M_6 40 0 r_8.toNatClampNeg) = 15 → (b_X5_ends_53 k2 k12 Q M_6 x1 x2 r_8)))))))))))
def l_X5_ends_12 (k2 : Mem → Int32 → Prop) (Q : Mem → Prop) (n : Nat) : Mem → Int32 → Int32 → Prop :=
  Nat.rec (motive := fun _ => Mem → Int32 → Int32 → Prop) (fun _ _ _ => False) (fun _ k => b_X5_ends_12 k2 Q k) n
def b_X5_ends_2 (Q : Mem → Prop) (k2 : Mem → Int32 → Prop) (M : Mem) (x1 : Int32) : Prop :=
  (mE M 5 0 = true ∧ (((mI M 5 0 3) ≤ x1 → (Q M)) ∧ (¬ (mI M 5 0 3) ≤ x1 → (∃ n : Nat, l_X5_ends_12 k2 Q n M x1 0))))
def l_X5_ends_2 (Q : Mem → Prop) (n : Nat) : Mem → Int32 → Prop :=
  Nat.rec (motive := fun _ => Mem → Int32 → Prop) (fun _ _ => False) (fun _ k => b_X5_ends_2 Q k) n
def w_X5_ends (M : Mem) (Q : Mem → Prop) : Prop :=
  (∃ n : Nat, l_X5_ends_2 Q n M 0)
def b_X5_run_45 (Q : Int32 → Mem → Prop) (k45 : Mem → Int32 → Int32 → Int32 → Prop) (M : Mem) (x1 : Int32) (x2 : Int32) (x3 : Int32) : Prop :=
  ((x1 ≤ x3 → (Q x2 M)) ∧ (¬ x1 ≤ x3 → (mE M 5 0 = true ∧ (w_X5_looks M (fun (M_11 : Mem) => (mE M_11 5 0 = true ∧ (w_X5_asks M_11 (fun (M_16 : Mem) => (mE M_16 5 0 = true ∧ (w_X5_comes M_16 (fun (r_23 : Int32) (M_21 : Mem) => (∀ v_24 : Int32, v_24 = (x2 + r_23) → (mE M_21 5 0 = true ∧ (w_X5_ends M_21 (fun (M_27 : Mem) => (mE M_27 5 0 = true ∧ (∀ M_31 : Mem, M_31 = wI M_27 5 0 1 ((mI M_27 5 0 1) + 1) → (∀ v_32 : Int32, v_32 = x3 + 1 → (k45 M_31 x1 v_24 v_32)))))))))))))))))))
def l_X5_run_45 (Q : Int32 → Mem → Prop) (n : Nat) : Mem → Int32 → Int32 → Int32 → Prop :=
  Nat.rec (motive := fun _ => Mem → Int32 → Int32 → Int32 → Prop) (fun _ _ _ _ => False) (fun _ k => b_X5_run_45 Q k) n
def b_X5_run_33 (Q : Int32 → Mem → Prop) (M : Mem) (x1 : Int32) (s0 : Int32) : Prop :=
  (mE M 5 0 = true ∧ (w_X5_fits M s0 (fun (r_6 : Int32) (M_4 : Mem) => ((r_6 = 0 → (Q 0 M_4)) ∧ (¬ r_6 = 0 → (∃ n : Nat, l_X5_run_45 Q n M_4 x1 0 0))))))
def b_X5_run_12 (Q : Int32 → Mem → Prop) (M : Mem) (x1 : Int32) : Prop :=
  (b_X5_run_33 Q M x1 1)
def w_X5_run (M : Mem) (a1 : Int32) (Q : Int32 → Mem → Prop) : Prop :=
  ((a1 < 1 → (b_X5_run_12 Q M a1)) ∧ (¬ a1 < 1 → ((a1 ≤ 20 → (mE M 5 0 = true ∧ ((((mI M 5 0 1) + a1) ≤ 200 → (b_X5_run_33 Q M a1 0)) ∧ (¬ ((mI M 5 0 1) + a1) ≤ 200 → (b_X5_run_33 Q M a1 2))))) ∧ (¬ a1 ≤ 20 → (b_X5_run_12 Q M a1)))))
def w_X4_rounds (M : Mem) (Q : Int32 → Mem → Prop) : Prop :=
  (mE M 4 0 = true ∧ (Q (mI M 4 0 4) M))
def w_X5_rounds (M : Mem) (Q : Int32 → Mem → Prop) : Prop :=
  (mE M 5 0 = true ∧ (∀ M_2 : Mem, M_2 = wI M 5 0 0 0 → (Q (mI M_2 5 0 1) M_2)))
def b_X4_peers_28 (k4 : Mem → Int32 → Int32 → Prop) (Q : Int32 → Mem → Prop) (M : Mem) (x1 : Int32) (x2 : Int32) : Prop :=
  (∀ v_8 : Int32, v_8 = x2 + 1 → (k4 M x1 v_8))
def b_X4_peers_4 (Q : Int32 → Mem → Prop) (k4 : Mem → Int32 → Int32 → Prop) (M : Mem) (x1 : Int32) (x2 : Int32) : Prop :=
  (mE M 4 0 = true ∧ (mF M 4 0 0 = true ∧ (mE M 10 0 = true ∧ (((6 : Int32) ≤ x2 → (Q x1 M)) ∧ (¬ (6 : Int32) ≤ x2 → (vp_in x2 6 ∧ ((mF M 10 0 x2.toNatClampNeg = true → (∀ v_7 : Int32, v_7 = (x1 ||| (1 <<< (x2 &&& 31))) → (b_X4_peers_28 k4 Q M v_7 x2))) ∧ (mF M 10 0 x2.toNatClampNeg = false → (b_X4_peers_28 k4 Q M x1 x2)))))))))
def l_X4_peers_4 (Q : Int32 → Mem → Prop) (n : Nat) : Mem → Int32 → Int32 → Prop :=
  Nat.rec (motive := fun _ => Mem → Int32 → Int32 → Prop) (fun _ _ _ => False) (fun _ k => b_X4_peers_4 Q k) n
def w_X4_peers (M : Mem) (Q : Int32 → Mem → Prop) : Prop :=
  (∃ n : Nat, l_X4_peers_4 Q n M 0 0)
def b_X5_peers_34 (k9 : Mem → Int32 → Int32 → Prop) (Q : Int32 → Mem → Prop) (M : Mem) (x2 : Int32) (s0 : Int32) (s1 : Int32) : Prop :=
  (∀ v_9 : Int32, v_9 = (s1 ||| s0) → (∀ v_10 : Int32, v_10 = x2 + 1 → (k9 M v_9 v_10)))
def b_X5_peers_9 (Q : Int32 → Mem → Prop) (k9 : Mem → Int32 → Int32 → Prop) (M : Mem) (x1 : Int32) (x2 : Int32) : Prop :=
  (mE M 5 0 = true ∧ (((mI M 5 0 3) ≤ x2 → (Q x1 M)) ∧ (¬ (mI M 5 0 3) ≤ x2 → (mF M 5 0 4 = true ∧ (mE M 34 0 = true ∧ (vp_in x2 6 ∧ (((mI M 34 0 x2.toNatClampNeg) = 0 → (b_X5_peers_34 k9 Q M x2 0 x1)) ∧ (¬ (mI M 34 0 x2.toNatClampNeg) = 0 → (b_X5_peers_34 k9 Q M x2 (1 <<< (x2 &&& 31)) x1)))))))))
def l_X5_peers_9 (Q : Int32 → Mem → Prop) (n : Nat) : Mem → Int32 → Int32 → Prop :=
  Nat.rec (motive := fun _ => Mem → Int32 → Int32 → Prop) (fun _ _ _ => False) (fun _ k => b_X5_peers_9 Q k) n
def w_X5_peers (M : Mem) (Q : Int32 → Mem → Prop) : Prop :=
  (mE M 5 0 = true ∧ (∀ M_2 : Mem, M_2 = wI M 5 0 0 0 → (∃ n : Nat, l_X5_peers_9 Q n M_2 0 0)))
def w_X4_holds (M : Mem) (a1 : Int32) (Q : Int32 → Mem → Prop) (X : Nat → Mem → Prop) : Prop :=
  (mE M 4 0 = true ∧ (w_X4_known M a1 (fun (r_5 : Nat) (M_3 : Mem) => (mE M_3 2 r_5 = true ∧ (mF M_3 2 r_5 1 = true ∧ (mE M_3 3 r_5 = true ∧ (Q (mI M_3 3 r_5 0) M_3))))) X))
def w_L_holds (M : Mem) (a1 : Int32) (Q : Int32 → Mem → Prop) : Prop :=
  (mE M 4 0 = true ∧ (w_X4_holds M a1 (fun (r_5 : Int32) (M_3 : Mem) => (mE M_3 60 0 = true ∧ (vp_in 0 1 ∧ (∀ M_8 : Mem, M_8 = wL M_3 60 0 ((0 : Int32).toNatClampNeg) r_5.toInt64 → (Q 0 M_8))))) (fun (k : Nat) (M_2 : Mem) => (k = 1 ∧ (Q 1 M_2)))))
def b_X5_holds_14 (Q : Int32 → Mem → Prop) (M : Mem) (x1 : Int32) (s0 : Int32) : Prop :=
  (mE M 5 0 = true ∧ (w_X5_fits M s0 (fun (r_11 : Int32) (M_9 : Mem) => ((r_11 = 0 → (Q 0 M_9)) ∧ (¬ r_11 = 0 → (mE M_9 5 0 = true ∧ (mF M_9 5 0 5 = true ∧ (mE M_9 35 0 = true ∧ (vp_in x1 6 ∧ (Q (mI M_9 35 0 x1.toNatClampNeg) M_9))))))))))
def w_X5_holds (M : Mem) (a1 : Int32) (Q : Int32 → Mem → Prop) : Prop :=
  (mE M 5 0 = true ∧ (w_X5_isPeer M a1 (fun (r_5 : Int32) (M_3 : Mem) => ((r_5 = 0 → (b_X5_holds_14 Q M_3 a1 1)) ∧ (¬ r_5 = 0 → (b_X5_holds_14 Q M_3 a1 0))))))
def b_X1_replayHeld_73 (k16 : Mem → Nat → Int32 → Int32 → Prop) (Q : Int32 → Mem → Prop) (M : Mem) (x0 : Nat) (x2 : Int32) (x3 : Int32) (s0 : Int32) (s1 : Int32) : Prop :=
  (mE M 3 6 = true ∧ (w_X3_take M 6 s1 s0 (fun (r_29 : Int32) (M_27 : Mem) => (∀ v_30 : Int32, v_30 = x3 + 1 → (k16 M_27 x0 x2 v_30)))))
def b_X1_replayHeld_51 (k16 : Mem → Nat → Int32 → Int32 → Prop) (Q : Int32 → Mem → Prop) (M : Mem) (x0 : Nat) (x2 : Int32) (x3 : Int32) (x4 : Int32) : Prop :=
  ((((x4 / 48) - (x4 / 48) / 2 * 2) = 1 → (b_X1_replayHeld_73 k16 Q M x0 x2 x3 1 (x4 - x4 / 48 * 48))) ∧ (¬ ((x4 / 48) - (x4 / 48) / 2 * 2) = 1 → (b_X1_replayHeld_73 k16 Q M x0 x2 x3 0 (x4 - x4 / 48 * 48))))
def b_X1_replayHeld_16 (Q : Int32 → Mem → Prop) (k16 : Mem → Nat → Int32 → Int32 → Prop) (M : Mem) (x0 : Nat) (x2 : Int32) (x3 : Int32) : Prop :=
  (mE M 1 x0 = true ∧ (((mI M 1 x0 2) ≤ x3 → (mE M 3 6 = true ∧ (w_X3_settleAll M 6 (fun (M_15 : Mem) => (mE M_15 3 6 = true ∧ (Q (mI M_15 3 6 0) M_15)))))) ∧ (¬ (mI M 1 x0 2) ≤ x3 → (mF M 1 x0 1 = true ∧ (mE M 22 x0 = true ∧ (vp_in x3 1000 ∧ (∀ v_22 : Int32, v_22 = (mI M 22 x0 x3.toNatClampNeg) → (((v_22 / 96) = x2 → (b_X1_replayHeld_51 k16 Q M x0 x2 x3 v_22)) ∧ (¬ (v_22 / 96) = x2 → (mE M 3 6 = true ∧ (w_X3_settleAll M 6 (fun (M_33 : Mem) => (∀ v_36 : Int32, v_36 = (v_22 / 96) → (b_X1_replayHeld_51 k16 Q M_33 x0 v_36 x3 v_22))))))))))))))
def l_X1_replayHeld_16 (Q : Int32 → Mem → Prop) (n : Nat) : Mem → Nat → Int32 → Int32 → Prop :=
  Nat.rec (motive := fun _ => Mem → Nat → Int32 → Int32 → Prop) (fun _ _ _ _ => False) (fun _ k => b_X1_replayHeld_16 Q k) n
def w_X1_replayHeld (M : Mem) (t : Nat) (Q : Int32 → Mem → Prop) : Prop :=
  (mE M 3 6 = false ∧ (∀ M_3 : Mem, M_3 = wN M 3 6 → (mE M_3 1 t = true ∧ (w_X3_init M_3 6 (mI M_3 1 t 0) (fun (M_8 : Mem) => (∃ n : Nat, l_X1_replayHeld_16 Q n M_8 t 0 0))))))
def w_X4_holdsByLog (M : Mem) (a1 : Int32) (Q : Int32 → Mem → Prop) (X : Nat → Mem → Prop) : Prop :=
  (mE M 4 0 = true ∧ (w_X4_known M a1 (fun (r_5 : Nat) (M_3 : Mem) => (mE M_3 2 r_5 = true ∧ (mF M_3 2 r_5 2 = true ∧ (mE M_3 1 r_5 = true ∧ (w_X1_replayHeld M_3 r_5 (fun (r_12 : Int32) (M_10 : Mem) => (Q r_12 M_10))))))) X))
def w_L_holdsByLog (M : Mem) (a1 : Int32) (Q : Int32 → Mem → Prop) : Prop :=
  (mE M 4 0 = true ∧ (w_X4_holdsByLog M a1 (fun (r_5 : Int32) (M_3 : Mem) => (mE M_3 60 0 = true ∧ (vp_in 0 1 ∧ (∀ M_10 : Mem, M_10 = wL M_3 60 0 ((0 : Int32).toNatClampNeg) r_5.toInt64 → (Q 0 M_10))))) (fun (k : Nat) (M_2 : Mem) => (k = 1 ∧ (Q 1 M_2)))))
def b_X5_holdsByLog_14 (Q : Int32 → Mem → Prop) (M : Mem) (x1 : Int32) (s0 : Int32) : Prop :=
  (mE M 5 0 = true ∧ (w_X5_fits M s0 (fun (r_11 : Int32) (M_9 : Mem) => ((r_11 = 0 → (Q 0 M_9)) ∧ (¬ r_11 = 0 → (mE M_9 5 0 = true ∧ (mF M_9 5 0 5 = true ∧ (mE M_9 35 0 = true ∧ (vp_in x1 6 ∧ (Q (mI M_9 35 0 x1.toNatClampNeg) M_9))))))))))
def w_X5_holdsByLog (M : Mem) (a1 : Int32) (Q : Int32 → Mem → Prop) : Prop :=
  (mE M 5 0 = true ∧ (w_X5_isPeer M a1 (fun (r_5 : Int32) (M_3 : Mem) => ((r_5 = 0 → (b_X5_holdsByLog_14 Q M_3 a1 1)) ∧ (¬ r_5 = 0 → (b_X5_holdsByLog_14 Q M_3 a1 0))))))
def w_X4_blocks (M : Mem) (a1 : Int32) (a2 : Int32) (Q : Int32 → Mem → Prop) (X : Nat → Mem → Prop) : Prop :=
  (mE M 4 0 = true ∧ (w_X4_known M a1 (fun (r_5 : Nat) (M_3 : Mem) => (mE M_3 2 r_5 = true ∧ (mF M_3 2 r_5 1 = true ∧ (w_X4_checkPiece M_3 a2 (fun (M_9 : Mem) => (mE M_9 3 r_5 = true ∧ (w_X4_isIn M_9 ((mI M_9 3 r_5 0).toInt64) a2 (fun (r_16 : Int32) (M_14 : Mem) => ((r_16 = 0 → (mE M_14 3 r_5 = true ∧ (Q ((((mL M_14 3 r_5 1) >>> ((a2 * 4).toInt64 &&& 63)).toInt32) &&& 15) M_14))) ∧ (¬ r_16 = 0 → (Q 15 M_14))))))) X)))) X))
def w_L_blocks (M : Mem) (a1 : Int32) (a2 : Int32) (Q : Int32 → Mem → Prop) : Prop :=
  (mE M 4 0 = true ∧ (w_X4_blocks M a1 a2 (fun (r_5 : Int32) (M_3 : Mem) => (mE M_3 60 0 = true ∧ (vp_in 0 1 ∧ (∀ M_8 : Mem, M_8 = wL M_3 60 0 ((0 : Int32).toNatClampNeg) r_5.toInt64 → (Q 0 M_8))))) (fun (k : Nat) (M_2 : Mem) => (k = 1 ∧ (Q 1 M_2)))))
def b_X5_blocks_21 (Q : Int32 → Mem → Prop) (M : Mem) (x1 : Int32) (x2 : Int32) (s0 : Int32) : Prop :=
  (mE M 5 0 = true ∧ (w_X5_fits M s0 (fun (r_11 : Int32) (M_9 : Mem) => ((r_11 = 0 → (Q 0 M_9)) ∧ (¬ r_11 = 0 → (mE M_9 5 0 = true ∧ (mF M_9 5 0 5 = true ∧ (mE M_9 35 0 = true ∧ (vp_in x1 6 ∧ (w_X5_has M_9 (mI M_9 35 0 x1.toNatClampNeg) x2 (fun (r_20 : Int32) (M_18 : Mem) => ((r_20 = 0 → (mE M_18 5 0 = true ∧ (mF M_18 5 0 10 = true ∧ (w_X5_at M_18 x1 x2 (fun (r_27 : Int32) (M_25 : Mem) => (mE M_25 40 0 = true ∧ (vp_in r_27 72 ∧ (Q (mI M_25 40 0 r_27.toNatClampNeg) M_25)))))))) ∧ (¬ r_20 = 0 → (Q 15 M_18))))))))))))))
def b_X5_blocks_20 (Q : Int32 → Mem → Prop) (M : Mem) (x1 : Int32) (x2 : Int32) : Prop :=
  (b_X5_blocks_21 Q M x1 x2 1)
def w_X5_blocks (M : Mem) (a1 : Int32) (a2 : Int32) (Q : Int32 → Mem → Prop) : Prop :=
  (mE M 5 0 = true ∧ (w_X5_isPeer M a1 (fun (r_5 : Int32) (M_3 : Mem) => ((r_5 = 0 → (b_X5_blocks_20 Q M_3 a1 a2)) ∧ (¬ r_5 = 0 → (w_X5_isPiece M_3 a2 (fun (r_33 : Int32) (M_31 : Mem) => ((r_33 = 0 → (b_X5_blocks_20 Q M_31 a1 a2)) ∧ (¬ r_33 = 0 → (b_X5_blocks_21 Q M_31 a1 a2 0))))))))))
def w_X4_holders (M : Mem) (a1 : Int32) (Q : Int32 → Mem → Prop) (X : Nat → Mem → Prop) : Prop :=
  (w_X4_checkPiece M a1 (fun (M_2 : Mem) => (mE M_2 4 0 = true ∧ (w_X4_countHolders M_2 a1 (fun (r_9 : Int32) (M_7 : Mem) => (Q r_9 M_7))))) X)
def w_L_holders (M : Mem) (a1 : Int32) (Q : Int32 → Mem → Prop) : Prop :=
  (mE M 4 0 = true ∧ (w_X4_holders M a1 (fun (r_5 : Int32) (M_3 : Mem) => (mE M_3 60 0 = true ∧ (vp_in 0 1 ∧ (∀ M_8 : Mem, M_8 = wL M_3 60 0 ((0 : Int32).toNatClampNeg) r_5.toInt64 → (Q 0 M_8))))) (fun (k : Nat) (M_2 : Mem) => (k = 1 ∧ (Q 1 M_2)))))
def b_X5_holders_13 (Q : Int32 → Mem → Prop) (M : Mem) (x1 : Int32) (s0 : Int32) : Prop :=
  (mE M 5 0 = true ∧ (w_X5_fits M s0 (fun (r_10 : Int32) (M_8 : Mem) => ((r_10 = 0 → (Q 0 M_8)) ∧ (¬ r_10 = 0 → (mE M_8 5 0 = true ∧ (w_X5_holdersOf M_8 x1 (fun (r_16 : Int32) (M_14 : Mem) => (Q r_16 M_14)))))))))
def w_X5_holders (M : Mem) (a1 : Int32) (Q : Int32 → Mem → Prop) : Prop :=
  (w_X5_isPiece M a1 (fun (r_4 : Int32) (M_2 : Mem) => ((r_4 = 0 → (b_X5_holders_13 Q M_2 a1 1)) ∧ (¬ r_4 = 0 → (b_X5_holders_13 Q M_2 a1 0)))))
def w_X4_shown (M : Mem) (a1 : Int32) (a2 : Int32) (Q : Int32 → Mem → Prop) (X : Nat → Mem → Prop) : Prop :=
  (mE M 4 0 = true ∧ (w_X4_known M a1 (fun (r_5 : Nat) (M_3 : Mem) => (mE M_3 4 0 = true ∧ (w_X4_known M_3 a2 (fun (r_10 : Nat) (M_8 : Mem) => (mE M_8 4 0 = true ∧ (w_X4_findShown M_8 r_5 r_10 (fun (r_15 : Int32) (M_13 : Mem) => (Q r_15 M_13))))) X))) X))
def w_L_shown (M : Mem) (a1 : Int32) (a2 : Int32) (Q : Int32 → Mem → Prop) : Prop :=
  (mE M 4 0 = true ∧ (w_X4_shown M a1 a2 (fun (r_5 : Int32) (M_3 : Mem) => (mE M_3 60 0 = true ∧ (vp_in 0 1 ∧ (∀ M_8 : Mem, M_8 = wL M_3 60 0 ((0 : Int32).toNatClampNeg) r_5.toInt64 → (Q 0 M_8))))) (fun (k : Nat) (M_2 : Mem) => (k = 1 ∧ (Q 1 M_2)))))
def b_X5_arePeers_22 (Q : Int32 → Mem → Prop) (M : Mem) (s0 : Int32) : Prop :=
  (mE M 5 0 = true ∧ (w_X5_fits M s0 (fun (r_11 : Int32) (M_9 : Mem) => (r_11 = 0 ∨ r_11 = 1 ∧ (Q r_11 M_9)))))
def b_X5_arePeers_21 (Q : Int32 → Mem → Prop) (M : Mem) : Prop :=
  (b_X5_arePeers_22 Q M 1)
def w_X5_arePeers (M : Mem) (a1 : Int32) (a2 : Int32) (Q : Int32 → Mem → Prop) : Prop :=
  (mE M 5 0 = true ∧ (w_X5_isPeer M a1 (fun (r_5 : Int32) (M_3 : Mem) => ((r_5 = 0 → (b_X5_arePeers_21 Q M_3)) ∧ (¬ r_5 = 0 → (mE M_3 5 0 = true ∧ (w_X5_isPeer M_3 a2 (fun (r_17 : Int32) (M_15 : Mem) => ((r_17 = 0 → (b_X5_arePeers_21 Q M_15)) ∧ (¬ r_17 = 0 → (b_X5_arePeers_22 Q M_15 0)))))))))))
def w_X5_shown (M : Mem) (a1 : Int32) (a2 : Int32) (Q : Int32 → Mem → Prop) : Prop :=
  (mE M 5 0 = true ∧ (w_X5_arePeers M a1 a2 (fun (r_5 : Int32) (M_3 : Mem) => ((r_5 = 0 → (Q 0 M_3)) ∧ (¬ r_5 = 0 → (mE M_3 5 0 = true ∧ (w_X5_shownBy M_3 a1 a2 (fun (r_11 : Int32) (M_9 : Mem) => (Q r_11 M_9)))))))))
def w_X4_chosen (M : Mem) (a1 : Int32) (Q : Int32 → Mem → Prop) (X : Nat → Mem → Prop) : Prop :=
  (mE M 4 0 = true ∧ (w_X4_known M a1 (fun (r_5 : Nat) (M_3 : Mem) => (mE M_3 4 0 = true ∧ (w_X4_findChosen M_3 r_5 (fun (r_10 : Int32) (M_8 : Mem) => (Q r_10 M_8))))) X))
def w_L_chosen (M : Mem) (a1 : Int32) (Q : Int32 → Mem → Prop) : Prop :=
  (mE M 4 0 = true ∧ (w_X4_chosen M a1 (fun (r_5 : Int32) (M_3 : Mem) => (mE M_3 60 0 = true ∧ (vp_in 0 1 ∧ (∀ M_8 : Mem, M_8 = wL M_3 60 0 ((0 : Int32).toNatClampNeg) r_5.toInt64 → (Q 0 M_8))))) (fun (k : Nat) (M_2 : Mem) => (k = 1 ∧ (Q 1 M_2)))))
def b_X5_chosen_14 (Q : Int32 → Mem → Prop) (M : Mem) (x1 : Int32) (s0 : Int32) : Prop :=
  (mE M 5 0 = true ∧ (w_X5_fits M s0 (fun (r_11 : Int32) (M_9 : Mem) => ((r_11 = 0 → (Q 0 M_9)) ∧ (¬ r_11 = 0 → (mE M_9 5 0 = true ∧ (w_X5_choiceOf M_9 x1 (fun (r_17 : Int32) (M_15 : Mem) => (Q r_17 M_15)))))))))
def w_X5_chosen (M : Mem) (a1 : Int32) (Q : Int32 → Mem → Prop) : Prop :=
  (mE M 5 0 = true ∧ (w_X5_isPeer M a1 (fun (r_5 : Int32) (M_3 : Mem) => ((r_5 = 0 → (b_X5_chosen_14 Q M_3 a1 1)) ∧ (¬ r_5 = 0 → (b_X5_chosen_14 Q M_3 a1 0))))))
def w_X4_got (M : Mem) (a1 : Int32) (a2 : Int32) (Q : Int32 → Mem → Prop) (X : Nat → Mem → Prop) : Prop :=
  (mE M 4 0 = true ∧ (w_X4_known M a1 (fun (r_5 : Nat) (M_3 : Mem) => (mE M_3 2 r_5 = true ∧ (mF M_3 2 r_5 8 = true ∧ (mE M_3 4 0 = true ∧ (w_X4_known M_3 a2 (fun (r_12 : Nat) (M_10 : Mem) => (mE M_10 2 r_12 = true ∧ (mE M_10 24 r_5 = true ∧ (vp_in (mI M_10 2 r_12 0) 6 ∧ (Q (mI M_10 24 r_5 ((mI M_10 2 r_12 0).toNatClampNeg)) M_10))))) X))))) X))
def w_L_got (M : Mem) (a1 : Int32) (a2 : Int32) (Q : Int32 → Mem → Prop) : Prop :=
  (mE M 4 0 = true ∧ (w_X4_got M a1 a2 (fun (r_5 : Int32) (M_3 : Mem) => (mE M_3 60 0 = true ∧ (vp_in 0 1 ∧ (∀ M_8 : Mem, M_8 = wL M_3 60 0 ((0 : Int32).toNatClampNeg) r_5.toInt64 → (Q 0 M_8))))) (fun (k : Nat) (M_2 : Mem) => (k = 1 ∧ (Q 1 M_2)))))
def w_X5_got (M : Mem) (a1 : Int32) (a2 : Int32) (Q : Int32 → Mem → Prop) : Prop :=
  (mE M 5 0 = true ∧ (w_X5_arePeers M a1 a2 (fun (r_5 : Int32) (M_3 : Mem) => ((r_5 = 0 → (Q 0 M_3)) ∧ (¬ r_5 = 0 → (mE M_3 5 0 = true ∧ (mF M_3 5 0 14 = true ∧ (w_X5_pair M_3 a1 a2 (fun (r_12 : Int32) (M_10 : Mem) => (mE M_10 44 0 = true ∧ (vp_in r_12 36 ∧ (Q (mI M_10 44 0 r_12.toNatClampNeg) M_10))))))))))))
def w_X4_doubles (M : Mem) (a1 : Int32) (Q : Int32 → Mem → Prop) (X : Nat → Mem → Prop) : Prop :=
  (mE M 4 0 = true ∧ (w_X4_known M a1 (fun (r_5 : Nat) (M_3 : Mem) => (mE M_3 2 r_5 = true ∧ (Q (mI M_3 2 r_5 11) M_3))) X))
def w_L_doubles (M : Mem) (a1 : Int32) (Q : Int32 → Mem → Prop) : Prop :=
  (mE M 4 0 = true ∧ (w_X4_doubles M a1 (fun (r_5 : Int32) (M_3 : Mem) => (mE M_3 60 0 = true ∧ (vp_in 0 1 ∧ (∀ M_8 : Mem, M_8 = wL M_3 60 0 ((0 : Int32).toNatClampNeg) r_5.toInt64 → (Q 0 M_8))))) (fun (k : Nat) (M_2 : Mem) => (k = 1 ∧ (Q 1 M_2)))))
def b_X5_doubles_14 (Q : Int32 → Mem → Prop) (M : Mem) (x1 : Int32) (s0 : Int32) : Prop :=
  (mE M 5 0 = true ∧ (w_X5_fits M s0 (fun (r_11 : Int32) (M_9 : Mem) => ((r_11 = 0 → (Q 0 M_9)) ∧ (¬ r_11 = 0 → (mE M_9 5 0 = true ∧ (mF M_9 5 0 9 = true ∧ (mE M_9 39 0 = true ∧ (vp_in x1 6 ∧ (Q (mI M_9 39 0 x1.toNatClampNeg) M_9))))))))))
def w_X5_doubles (M : Mem) (a1 : Int32) (Q : Int32 → Mem → Prop) : Prop :=
  (mE M 5 0 = true ∧ (w_X5_isPeer M a1 (fun (r_5 : Int32) (M_3 : Mem) => ((r_5 = 0 → (b_X5_doubles_14 Q M_3 a1 1)) ∧ (¬ r_5 = 0 → (b_X5_doubles_14 Q M_3 a1 0))))))
def w_X4_strikes (M : Mem) (a1 : Int32) (a2 : Int32) (Q : Int32 → Mem → Prop) (X : Nat → Mem → Prop) : Prop :=
  (mE M 4 0 = true ∧ (w_X4_known M a1 (fun (r_5 : Nat) (M_3 : Mem) => (mE M_3 2 r_5 = true ∧ (mF M_3 2 r_5 9 = true ∧ (mE M_3 4 0 = true ∧ (w_X4_known M_3 a2 (fun (r_12 : Nat) (M_10 : Mem) => (mE M_10 2 r_12 = true ∧ (mE M_10 25 r_5 = true ∧ (vp_in (mI M_10 2 r_12 0) 6 ∧ (Q (mI M_10 25 r_5 ((mI M_10 2 r_12 0).toNatClampNeg)) M_10))))) X))))) X))
def w_L_strikes (M : Mem) (a1 : Int32) (a2 : Int32) (Q : Int32 → Mem → Prop) : Prop :=
  (mE M 4 0 = true ∧ (w_X4_strikes M a1 a2 (fun (r_5 : Int32) (M_3 : Mem) => (mE M_3 60 0 = true ∧ (vp_in 0 1 ∧ (∀ M_8 : Mem, M_8 = wL M_3 60 0 ((0 : Int32).toNatClampNeg) r_5.toInt64 → (Q 0 M_8))))) (fun (k : Nat) (M_2 : Mem) => (k = 1 ∧ (Q 1 M_2)))))
def w_X5_strikes (M : Mem) (a1 : Int32) (a2 : Int32) (Q : Int32 → Mem → Prop) : Prop :=
  (mE M 5 0 = true ∧ (w_X5_arePeers M a1 a2 (fun (r_5 : Int32) (M_3 : Mem) => ((r_5 = 0 → (Q 0 M_3)) ∧ (¬ r_5 = 0 → (mE M_3 5 0 = true ∧ (mF M_3 5 0 15 = true ∧ (w_X5_pair M_3 a1 a2 (fun (r_12 : Int32) (M_10 : Mem) => (mE M_10 45 0 = true ∧ (vp_in r_12 36 ∧ (Q (mI M_10 45 0 r_12.toNatClampNeg) M_10))))))))))))
def w_X4_isBanned (M : Mem) (a1 : Int32) (a2 : Int32) (Q : Int32 → Mem → Prop) (X : Nat → Mem → Prop) : Prop :=
  (mE M 4 0 = true ∧ (w_X4_known M a1 (fun (r_5 : Nat) (M_3 : Mem) => (mE M_3 2 r_5 = true ∧ (mE M_3 4 0 = true ∧ (w_X4_known M_3 a2 (fun (r_11 : Nat) (M_9 : Mem) => (mE M_9 2 r_11 = true ∧ (w_X4_isIn M_9 ((mI M_3 2 r_5 10).toInt64) (mI M_9 2 r_11 0) (fun (r_16 : Int32) (M_14 : Mem) => (r_16 = 0 ∨ r_16 = 1 ∧ (Q r_16 M_14)))))) X)))) X))
def b_L_isBanned_16 (Q : Int32 → Mem → Prop) (M : Mem) (s0 : Int64) (s1 : Int32) : Prop :=
  (mE M 60 0 = true ∧ (vp_in s1 1 ∧ (∀ M_9 : Mem, M_9 = wL M 60 0 s1.toNatClampNeg s0 → (Q 0 M_9))))
def w_L_isBanned (M : Mem) (a1 : Int32) (a2 : Int32) (Q : Int32 → Mem → Prop) : Prop :=
  (mE M 4 0 = true ∧ (w_X4_isBanned M a1 a2 (fun (r_5 : Int32) (M_3 : Mem) => ((r_5 = 0 → (b_L_isBanned_16 Q M_3 0 0)) ∧ (¬ r_5 = 0 → (b_L_isBanned_16 Q M_3 1 0)))) (fun (k : Nat) (M_2 : Mem) => (k = 1 ∧ (Q 1 M_2)))))
def w_X5_isBanned (M : Mem) (a1 : Int32) (a2 : Int32) (Q : Int32 → Mem → Prop) : Prop :=
  (mE M 5 0 = true ∧ (w_X5_arePeers M a1 a2 (fun (r_5 : Int32) (M_3 : Mem) => ((r_5 = 0 → (Q 0 M_3)) ∧ (¬ r_5 = 0 → (mE M_3 5 0 = true ∧ (mF M_3 5 0 16 = true ∧ (w_X5_pair M_3 a1 a2 (fun (r_12 : Int32) (M_10 : Mem) => (mE M_10 46 0 = true ∧ (vp_in r_12 36 ∧ (((mI M_10 46 0 r_12.toNatClampNeg) = 0 → (Q 0 M_10)) ∧ (¬ (mI M_10 46 0 r_12.toNatClampNeg) = 0 → (Q 1 M_10))))))))))))))
end
section
/-! the words that the walks use: laid by wip/whole/gen.py -/
theorem clX0 : Cls 0 RX0 TX0 4 WSG := ⟨by decide, rfl, rfl, fun w h => memW (by revert w h; decide +kernel) (by revert w h; decide +kernel), nmX0, tyX0, tyX0_ok⟩
theorem clX1 : Cls 1 RX1 TX1 3 WSG := ⟨by decide, rfl, rfl, fun w h => memW (by revert w h; decide +kernel) (by revert w h; decide +kernel), nmX1, tyX1, tyX1_ok⟩
theorem clX2 : Cls 2 RX2 TX2 14 WSG := ⟨by decide, rfl, rfl, fun w h => memW (by revert w h; decide +kernel) (by revert w h; decide +kernel), nmX2, tyX2, tyX2_ok⟩
theorem clX3 : Cls 3 RX3 TX3 3 WSG := ⟨by decide, rfl, rfl, fun w h => memW (by revert w h; decide +kernel) (by revert w h; decide +kernel), nmX3, tyX3, tyX3_ok⟩
theorem clX4 : Cls 4 RX4 TX4 5 WSG := ⟨by decide, rfl, rfl, fun w h => memW (by revert w h; decide +kernel) (by revert w h; decide +kernel), nmX4, tyX4, tyX4_ok⟩
theorem clX5 : Cls 5 RX5 TX5 23 WSG := ⟨by decide, rfl, rfl, fun w h => memW (by revert w h; decide +kernel) (by revert w h; decide +kernel), nmX5, tyX5, tyX5_ok⟩
theorem at_X4_39_0 : ∀ w ∈ vx_atS RX4 39 (exN 0) EXN, w ∈ WSG ∨ w ∈ NG := by decide +kernel
theorem ag_X4_39_0 : ∀ w ∈ Cond.classLink RX4 35 (exN 0) :: Cond.initialized (exN 0) :: vx_atS RX4 39 (exN 0) EXN, vx_ot w = true := by decide +kernel
theorem at_X4_75_2 : ∀ w ∈ vx_atS RX4 75 (exN 2) EXN, w ∈ WSG ∨ w ∈ NG := by decide +kernel
theorem ag_X4_75_2 : ∀ w ∈ Cond.classLink RX4 71 (exN 2) :: Cond.initialized (exN 2) :: vx_atS RX4 75 (exN 2) EXN, vx_ot w = true := by decide +kernel
theorem at_X4_141_1 : ∀ w ∈ vx_atS RX4 141 (exN 1) EXN, w ∈ WSG ∨ w ∈ NG := by decide +kernel
theorem ag_X4_141_1 : ∀ w ∈ Cond.classLink RX4 137 (exN 1) :: Cond.initialized (exN 1) :: vx_atS RX4 141 (exN 1) EXN, vx_ot w = true := by decide +kernel
theorem k_1 : Cond.methodLink RX4 3 objectInit ∈ WSG := memW (by decide +kernel) (by decide +kernel)
theorem k_2 : Cond.instanceMethod objectInit ∈ WSG := memW (by decide +kernel) (by decide +kernel)
theorem k_3 : Cond.code objectInit ⟨#[0xb1]⟩ 1 none ∈ WSG := memW (by decide +kernel) (by decide +kernel)
theorem k_4 : Cond.classLink RX4 9 RX2 ∈ WSG := memW (by decide +kernel) (by decide +kernel)
theorem k_5 : Cond.fieldLink RX4 11 "Swarmhall" "present" "[LSwarmhall$Peer;" ∈ WSG := memW (by decide +kernel) (by decide +kernel)
theorem k_6 : Cond.arrayClass (newarray.typeOf .int) ∈ WSG := memW (by decide +kernel) (by decide +kernel)
theorem k_7 : Cond.fieldLink RX4 15 "Swarmhall" "priorities" "[I" ∈ WSG := memW (by decide +kernel) (by decide +kernel)
theorem k_8 : Cond.fieldLink RX4 19 "Swarmhall" "holdersAtStart" "[I" ∈ WSG := memW (by decide +kernel) (by decide +kernel)
theorem k_9 : Cond.fieldLink RX4 22 "Swarmhall" "joined" "I" ∈ WSG := memW (by decide +kernel) (by decide +kernel)
theorem k_10 : Cond.fieldLink RX4 26 "Swarmhall" "roundsRun" "I" ∈ WSG := memW (by decide +kernel) (by decide +kernel)
theorem k_11 : Cond.methodLink RX4 29 yJ7_fill_53178 ∈ WSG := memW (by decide +kernel) (by decide +kernel)
theorem k_12 : Cond.static yJ7_fill_53178 ∈ WSG := memW (by decide +kernel) (by decide +kernel)
theorem k_13 : Cond.methodLink RX5 1 objectInit ∈ WSG := memW (by decide +kernel) (by decide +kernel)
theorem k_14 : Cond.fieldLink RX5 7 "SwarmhallModel" "priorities" "[I" ∈ WSG := memW (by decide +kernel) (by decide +kernel)
theorem k_15 : Cond.arrayClass (newarray.typeOf .boolean) ∈ WSG := memW (by decide +kernel) (by decide +kernel)
theorem k_16 : Cond.fieldLink RX5 13 "SwarmhallModel" "isHere" "[Z" ∈ WSG := memW (by decide +kernel) (by decide +kernel)
theorem k_17 : Cond.fieldLink RX5 17 "SwarmhallModel" "held" "[I" ∈ WSG := memW (by decide +kernel) (by decide +kernel)
theorem k_18 : Cond.fieldLink RX5 20 "SwarmhallModel" "isCareful" "[Z" ∈ WSG := memW (by decide +kernel) (by decide +kernel)
theorem k_19 : Cond.fieldLink RX5 23 "SwarmhallModel" "inSequence" "[Z" ∈ WSG := memW (by decide +kernel) (by decide +kernel)
theorem k_20 : Cond.fieldLink RX5 26 "SwarmhallModel" "spoilt" "[I" ∈ WSG := memW (by decide +kernel) (by decide +kernel)
theorem k_21 : Cond.fieldLink RX5 29 "SwarmhallModel" "doubles" "[I" ∈ WSG := memW (by decide +kernel) (by decide +kernel)
theorem k_22 : Cond.fieldLink RX5 32 "SwarmhallModel" "had" "[I" ∈ WSG := memW (by decide +kernel) (by decide +kernel)
theorem k_23 : Cond.fieldLink RX5 35 "SwarmhallModel" "wrong" "[I" ∈ WSG := memW (by decide +kernel) (by decide +kernel)
theorem k_24 : Cond.fieldLink RX5 38 "SwarmhallModel" "asked" "[I" ∈ WSG := memW (by decide +kernel) (by decide +kernel)
theorem k_25 : Cond.fieldLink RX5 41 "SwarmhallModel" "from" "[I" ∈ WSG := memW (by decide +kernel) (by decide +kernel)
theorem k_26 : Cond.fieldLink RX5 44 "SwarmhallModel" "got" "[I" ∈ WSG := memW (by decide +kernel) (by decide +kernel)
theorem k_27 : Cond.fieldLink RX5 47 "SwarmhallModel" "strikes" "[I" ∈ WSG := memW (by decide +kernel) (by decide +kernel)
theorem k_28 : Cond.fieldLink RX5 50 "SwarmhallModel" "isBanned" "[Z" ∈ WSG := memW (by decide +kernel) (by decide +kernel)
theorem k_29 : Cond.fieldLink RX5 53 "SwarmhallModel" "shows" "[I" ∈ WSG := memW (by decide +kernel) (by decide +kernel)
theorem k_30 : Cond.fieldLink RX5 56 "SwarmhallModel" "chosen" "[I" ∈ WSG := memW (by decide +kernel) (by decide +kernel)
theorem k_31 : Cond.fieldLink RX5 59 "SwarmhallModel" "askers" "[I" ∈ WSG := memW (by decide +kernel) (by decide +kernel)
theorem k_32 : Cond.fieldLink RX5 62 "SwarmhallModel" "sources" "[I" ∈ WSG := memW (by decide +kernel) (by decide +kernel)
theorem k_33 : Cond.fieldLink RX5 65 "SwarmhallModel" "wanted" "[I" ∈ WSG := memW (by decide +kernel) (by decide +kernel)
theorem k_34 : Cond.methodLink RX0 3 objectInit ∈ WSG := memW (by decide +kernel) (by decide +kernel)
theorem k_35 : Cond.fieldLink RX0 9 "Swarmhall$Asks" "blocks" "[I" ∈ WSG := memW (by decide +kernel) (by decide +kernel)
theorem k_36 : Cond.fieldLink RX0 15 "Swarmhall$Asks" "others" "[I" ∈ WSG := memW (by decide +kernel) (by decide +kernel)
theorem k_37 : Cond.fieldLink RX0 18 "Swarmhall$Asks" "count" "I" ∈ WSG := memW (by decide +kernel) (by decide +kernel)
theorem k_38 : Cond.fieldLink RX0 22 "Swarmhall$Asks" "asked" "J" ∈ WSG := memW (by decide +kernel) (by decide +kernel)
theorem k_39 : Cond.methodLink RX3 3 objectInit ∈ WSG := memW (by decide +kernel) (by decide +kernel)
theorem k_40 : Cond.fieldLink RX3 9 "Swarmhall$Store" "has" "J" ∈ WSG := memW (by decide +kernel) (by decide +kernel)
theorem k_41 : Cond.fieldLink RX3 15 "Swarmhall$Store" "wrong" "J" ∈ WSG := memW (by decide +kernel) (by decide +kernel)
theorem k_42 : Cond.fieldLink RX3 18 "Swarmhall$Store" "held" "I" ∈ WSG := memW (by decide +kernel) (by decide +kernel)
theorem k_43 : Cond.methodLink RX1 3 objectInit ∈ WSG := memW (by decide +kernel) (by decide +kernel)
theorem k_44 : Cond.fieldLink RX1 9 "Swarmhall$Log" "entries" "[I" ∈ WSG := memW (by decide +kernel) (by decide +kernel)
theorem k_45 : Cond.fieldLink RX1 15 "Swarmhall$Log" "count" "I" ∈ WSG := memW (by decide +kernel) (by decide +kernel)
theorem k_46 : Cond.fieldLink RX1 19 "Swarmhall$Log" "heldAtFirst" "I" ∈ WSG := memW (by decide +kernel) (by decide +kernel)
theorem k_47 : Cond.methodLink RX2 3 objectInit ∈ WSG := memW (by decide +kernel) (by decide +kernel)
theorem k_48 : Cond.classLink RX2 9 RX0 ∈ WSG := memW (by decide +kernel) (by decide +kernel)
theorem k_49 : Cond.instantiable RX0 4 ∈ WSG := memW (by decide +kernel) (by decide +kernel)
theorem k_50 : Cond.initialized RX0 ∈ WSG := memW (by decide +kernel) (by decide +kernel)
theorem k_51 : Cond.instanceMethod yX0_init ∈ WSG := memW (by decide +kernel) (by decide +kernel)
theorem k_52 : Cond.fieldLink RX2 12 "Swarmhall$Peer" "asks" "LSwarmhall$Asks;" ∈ WSG := memW (by decide +kernel) (by decide +kernel)
theorem k_53 : Cond.fieldLink RX2 18 "Swarmhall$Peer" "spoiled" "I" ∈ WSG := memW (by decide +kernel) (by decide +kernel)
theorem k_54 : Cond.fieldLink RX2 22 "Swarmhall$Peer" "inSequence" "Z" ∈ WSG := memW (by decide +kernel) (by decide +kernel)
theorem k_55 : Cond.fieldLink RX2 26 "Swarmhall$Peer" "careful" "Z" ∈ WSG := memW (by decide +kernel) (by decide +kernel)
theorem k_56 : Cond.arrayClass (newarray.typeOf .long) ∈ WSG := memW (by decide +kernel) (by decide +kernel)
theorem k_57 : Cond.fieldLink RX2 29 "Swarmhall$Peer" "cameFrom" "[J" ∈ WSG := memW (by decide +kernel) (by decide +kernel)
theorem k_58 : Cond.fieldLink RX2 33 "Swarmhall$Peer" "gotOf" "[I" ∈ WSG := memW (by decide +kernel) (by decide +kernel)
theorem k_59 : Cond.fieldLink RX2 37 "Swarmhall$Peer" "strikesAgainst" "[I" ∈ WSG := memW (by decide +kernel) (by decide +kernel)
theorem k_60 : Cond.fieldLink RX2 40 "Swarmhall$Peer" "banned" "I" ∈ WSG := memW (by decide +kernel) (by decide +kernel)
theorem k_61 : Cond.fieldLink RX2 43 "Swarmhall$Peer" "doublesCome" "I" ∈ WSG := memW (by decide +kernel) (by decide +kernel)
theorem k_62 : Cond.fieldLink RX2 46 "Swarmhall$Peer" "shownNow" "[I" ∈ WSG := memW (by decide +kernel) (by decide +kernel)
theorem k_63 : Cond.fieldLink RX2 49 "Swarmhall$Peer" "chosenNow" "I" ∈ WSG := memW (by decide +kernel) (by decide +kernel)
theorem k_64 : Cond.fieldLink RX2 52 "Swarmhall$Peer" "number" "I" ∈ WSG := memW (by decide +kernel) (by decide +kernel)
theorem k_65 : Cond.classLink RX2 55 RX3 ∈ WSG := memW (by decide +kernel) (by decide +kernel)
theorem k_66 : Cond.instantiable RX3 3 ∈ WSG := memW (by decide +kernel) (by decide +kernel)
theorem k_67 : Cond.initialized RX3 ∈ WSG := memW (by decide +kernel) (by decide +kernel)
theorem k_68 : Cond.methodLink RX2 57 yX3_init ∈ WSG := memW (by decide +kernel) (by decide +kernel)
theorem k_69 : Cond.instanceMethod yX3_init ∈ WSG := memW (by decide +kernel) (by decide +kernel)
theorem k_70 : Cond.fieldLink RX2 60 "Swarmhall$Peer" "store" "LSwarmhall$Store;" ∈ WSG := memW (by decide +kernel) (by decide +kernel)
theorem k_71 : Cond.classLink RX2 64 RX1 ∈ WSG := memW (by decide +kernel) (by decide +kernel)
theorem k_72 : Cond.instantiable RX1 3 ∈ WSG := memW (by decide +kernel) (by decide +kernel)
theorem k_73 : Cond.initialized RX1 ∈ WSG := memW (by decide +kernel) (by decide +kernel)
theorem k_74 : Cond.methodLink RX2 66 yX1_init ∈ WSG := memW (by decide +kernel) (by decide +kernel)
theorem k_75 : Cond.instanceMethod yX1_init ∈ WSG := memW (by decide +kernel) (by decide +kernel)
theorem k_76 : Cond.fieldLink RX2 67 "Swarmhall$Peer" "log" "LSwarmhall$Log;" ∈ WSG := memW (by decide +kernel) (by decide +kernel)
theorem k_77 : Cond.instantiable RX2 14 ∈ WSG := memW (by decide +kernel) (by decide +kernel)
theorem k_78 : Cond.initialized RX2 ∈ WSG := memW (by decide +kernel) (by decide +kernel)
theorem k_79 : Cond.methodLink RX4 42 yX2_init ∈ WSG := memW (by decide +kernel) (by decide +kernel)
theorem k_80 : Cond.instanceMethod yX2_init ∈ WSG := memW (by decide +kernel) (by decide +kernel)
theorem k_81 : Cond.classLink RX4 35 (exN 0) ∈ WSG := memW (by decide +kernel) (by decide +kernel)
theorem k_82 : Cond.initialized (exN 0) ∈ WSG := memW (by decide +kernel) (by decide +kernel)
theorem k_83 : Cond.methodLink RL 7 yX4_join ∈ WSG := memW (by decide +kernel) (by decide +kernel)
theorem k_84 : Cond.instanceMethod yX4_join ∈ WSG := memW (by decide +kernel) (by decide +kernel)
theorem k_85 : Cond.selects yX4_join.cls yX4_join yX4_join ∈ WSG := memW (by decide +kernel) (by decide +kernel)
theorem k_86 : Cond.classLink RL 13 (exN 0) ∈ WSG := memW (by decide +kernel) (by decide +kernel)
theorem k_87 : Cond.fieldLink RX5 68 "SwarmhallModel" "thrown" "I" ∈ WSG := memW (by decide +kernel) (by decide +kernel)
theorem k_88 : Cond.fieldLink RX5 72 "SwarmhallModel" "joined" "I" ∈ WSG := memW (by decide +kernel) (by decide +kernel)
theorem k_89 : Cond.methodLink RX5 75 yX5_fits ∈ WSG := memW (by decide +kernel) (by decide +kernel)
theorem k_90 : Cond.instanceMethod yX5_fits ∈ WSG := memW (by decide +kernel) (by decide +kernel)
theorem k_91 : Cond.selects yX5_fits.cls yX5_fits yX5_fits ∈ WSG := memW (by decide +kernel) (by decide +kernel)
theorem k_92 : Cond.methodLink RX4 134 yX4_find ∈ WSG := memW (by decide +kernel) (by decide +kernel)
theorem k_93 : Cond.instanceMethod yX4_find ∈ WSG := memW (by decide +kernel) (by decide +kernel)
theorem k_94 : Cond.selects yX4_find.cls yX4_find yX4_find ∈ WSG := memW (by decide +kernel) (by decide +kernel)
theorem k_95 : Cond.classLink RX4 137 (exN 1) ∈ WSG := memW (by decide +kernel) (by decide +kernel)
theorem k_96 : Cond.initialized (exN 1) ∈ WSG := memW (by decide +kernel) (by decide +kernel)
theorem k_97 : Cond.methodLink RX4 45 yX4_known ∈ WSG := memW (by decide +kernel) (by decide +kernel)
theorem k_98 : Cond.instanceMethod yX4_known ∈ WSG := memW (by decide +kernel) (by decide +kernel)
theorem k_99 : Cond.selects yX4_known.cls yX4_known yX4_known ∈ WSG := memW (by decide +kernel) (by decide +kernel)
theorem k_100 : Cond.fieldLink RX4 49 "Swarmhall$Peer" "number" "I" ∈ WSG := memW (by decide +kernel) (by decide +kernel)
theorem k_101 : Cond.fieldLink RX4 52 "Swarmhall$Peer" "store" "LSwarmhall$Store;" ∈ WSG := memW (by decide +kernel) (by decide +kernel)
theorem k_102 : Cond.fieldLink RX4 56 "Swarmhall$Store" "held" "I" ∈ WSG := memW (by decide +kernel) (by decide +kernel)
theorem k_103 : Cond.constant RJ6 265 (1431655765) ∈ WSG := memW (by decide +kernel) (by decide +kernel)
theorem k_104 : Cond.constant RJ6 266 (858993459) ∈ WSG := memW (by decide +kernel) (by decide +kernel)
theorem k_105 : Cond.constant RJ6 267 (252645135) ∈ WSG := memW (by decide +kernel) (by decide +kernel)
theorem k_106 : Cond.methodLink RX4 61 yJ6_bitCount_0f7a4 ∈ WSG := memW (by decide +kernel) (by decide +kernel)
theorem k_107 : Cond.static yJ6_bitCount_0f7a4 ∈ WSG := memW (by decide +kernel) (by decide +kernel)
theorem k_108 : Cond.methodLink RL 15 yX4_leave ∈ WSG := memW (by decide +kernel) (by decide +kernel)
theorem k_109 : Cond.instanceMethod yX4_leave ∈ WSG := memW (by decide +kernel) (by decide +kernel)
theorem k_110 : Cond.selects yX4_leave.cls yX4_leave yX4_leave ∈ WSG := memW (by decide +kernel) (by decide +kernel)
theorem k_111 : Cond.classLink RL 19 (exN 1) ∈ WSG := memW (by decide +kernel) (by decide +kernel)
theorem k_112 : Cond.methodLink RX5 79 yX5_isPeer ∈ WSG := memW (by decide +kernel) (by decide +kernel)
theorem k_113 : Cond.instanceMethod yX5_isPeer ∈ WSG := memW (by decide +kernel) (by decide +kernel)
theorem k_114 : Cond.selects yX5_isPeer.cls yX5_isPeer yX5_isPeer ∈ WSG := memW (by decide +kernel) (by decide +kernel)
theorem k_115 : Cond.methodLink RX5 82 yX5_count ∈ WSG := memW (by decide +kernel) (by decide +kernel)
theorem k_116 : Cond.static yX5_count ∈ WSG := memW (by decide +kernel) (by decide +kernel)
theorem k_117 : Cond.methodLink RX4 67 yX4_checkPiece ∈ WSG := memW (by decide +kernel) (by decide +kernel)
theorem k_118 : Cond.static yX4_checkPiece ∈ WSG := memW (by decide +kernel) (by decide +kernel)
theorem k_119 : Cond.classLink RX4 71 (exN 2) ∈ WSG := memW (by decide +kernel) (by decide +kernel)
theorem k_120 : Cond.initialized (exN 2) ∈ WSG := memW (by decide +kernel) (by decide +kernel)
theorem k_121 : Cond.methodLink RL 21 yX4_setPriority ∈ WSG := memW (by decide +kernel) (by decide +kernel)
theorem k_122 : Cond.instanceMethod yX4_setPriority ∈ WSG := memW (by decide +kernel) (by decide +kernel)
theorem k_123 : Cond.selects yX4_setPriority.cls yX4_setPriority yX4_setPriority ∈ WSG := memW (by decide +kernel) (by decide +kernel)
theorem k_124 : Cond.classLink RL 25 (exN 2) ∈ WSG := memW (by decide +kernel) (by decide +kernel)
theorem k_125 : Cond.methodLink RX5 86 yX5_isPiece ∈ WSG := memW (by decide +kernel) (by decide +kernel)
theorem k_126 : Cond.static yX5_isPiece ∈ WSG := memW (by decide +kernel) (by decide +kernel)
theorem k_127 : Cond.fieldLink RX4 76 "Swarmhall$Peer" "inSequence" "Z" ∈ WSG := memW (by decide +kernel) (by decide +kernel)
theorem k_128 : Cond.methodLink RL 27 yX4_setSequence ∈ WSG := memW (by decide +kernel) (by decide +kernel)
theorem k_129 : Cond.instanceMethod yX4_setSequence ∈ WSG := memW (by decide +kernel) (by decide +kernel)
theorem k_130 : Cond.selects yX4_setSequence.cls yX4_setSequence yX4_setSequence ∈ WSG := memW (by decide +kernel) (by decide +kernel)
theorem k_131 : Cond.fieldLink RX4 80 "Swarmhall$Peer" "careful" "Z" ∈ WSG := memW (by decide +kernel) (by decide +kernel)
theorem k_132 : Cond.methodLink RL 31 yX4_setCareful ∈ WSG := memW (by decide +kernel) (by decide +kernel)
theorem k_133 : Cond.instanceMethod yX4_setCareful ∈ WSG := memW (by decide +kernel) (by decide +kernel)
theorem k_134 : Cond.selects yX4_setCareful.cls yX4_setCareful yX4_setCareful ∈ WSG := memW (by decide +kernel) (by decide +kernel)
theorem k_135 : Cond.fieldLink RX4 83 "Swarmhall$Peer" "spoiled" "I" ∈ WSG := memW (by decide +kernel) (by decide +kernel)
theorem k_136 : Cond.methodLink RX4 86 yX4_isIn ∈ WSG := memW (by decide +kernel) (by decide +kernel)
theorem k_137 : Cond.static yX4_isIn ∈ WSG := memW (by decide +kernel) (by decide +kernel)
theorem k_138 : Cond.methodLink RL 34 yX4_spoil ∈ WSG := memW (by decide +kernel) (by decide +kernel)
theorem k_139 : Cond.instanceMethod yX4_spoil ∈ WSG := memW (by decide +kernel) (by decide +kernel)
theorem k_140 : Cond.selects yX4_spoil.cls yX4_spoil yX4_spoil ∈ WSG := memW (by decide +kernel) (by decide +kernel)
theorem k_141 : Cond.methodLink RX5 89 yX5_has ∈ WSG := memW (by decide +kernel) (by decide +kernel)
theorem k_142 : Cond.static yX5_has ∈ WSG := memW (by decide +kernel) (by decide +kernel)
theorem k_143 : Cond.methodLink RX4 111 yX4_countHolders ∈ WSG := memW (by decide +kernel) (by decide +kernel)
theorem k_144 : Cond.instanceMethod yX4_countHolders ∈ WSG := memW (by decide +kernel) (by decide +kernel)
theorem k_145 : Cond.selects yX4_countHolders.cls yX4_countHolders yX4_countHolders ∈ WSG := memW (by decide +kernel) (by decide +kernel)
theorem k_146 : Cond.methodLink RX4 144 yX4_findRarest ∈ WSG := memW (by decide +kernel) (by decide +kernel)
theorem k_147 : Cond.instanceMethod yX4_findRarest ∈ WSG := memW (by decide +kernel) (by decide +kernel)
theorem k_148 : Cond.selects yX4_findRarest.cls yX4_findRarest yX4_findRarest ∈ WSG := memW (by decide +kernel) (by decide +kernel)
theorem k_149 : Cond.methodLink RX4 161 yX4_wantedPieces ∈ WSG := memW (by decide +kernel) (by decide +kernel)
theorem k_150 : Cond.instanceMethod yX4_wantedPieces ∈ WSG := memW (by decide +kernel) (by decide +kernel)
theorem k_151 : Cond.selects yX4_wantedPieces.cls yX4_wantedPieces yX4_wantedPieces ∈ WSG := memW (by decide +kernel) (by decide +kernel)
theorem k_152 : Cond.fieldLink RX4 131 "Swarmhall$Peer" "banned" "I" ∈ WSG := memW (by decide +kernel) (by decide +kernel)
theorem k_153 : Cond.methodLink RX4 114 yX4_findShown ∈ WSG := memW (by decide +kernel) (by decide +kernel)
theorem k_154 : Cond.instanceMethod yX4_findShown ∈ WSG := memW (by decide +kernel) (by decide +kernel)
theorem k_155 : Cond.selects yX4_findShown.cls yX4_findShown yX4_findShown ∈ WSG := memW (by decide +kernel) (by decide +kernel)
theorem k_156 : Cond.fieldLink RX4 122 "Swarmhall$Peer" "gotOf" "[I" ∈ WSG := memW (by decide +kernel) (by decide +kernel)
theorem k_157 : Cond.methodLink RX4 148 yX4_findInterested ∈ WSG := memW (by decide +kernel) (by decide +kernel)
theorem k_158 : Cond.instanceMethod yX4_findInterested ∈ WSG := memW (by decide +kernel) (by decide +kernel)
theorem k_159 : Cond.selects yX4_findInterested.cls yX4_findInterested yX4_findInterested ∈ WSG := memW (by decide +kernel) (by decide +kernel)
theorem k_160 : Cond.methodLink RX4 158 yX4_findNextInTurn ∈ WSG := memW (by decide +kernel) (by decide +kernel)
theorem k_161 : Cond.instanceMethod yX4_findNextInTurn ∈ WSG := memW (by decide +kernel) (by decide +kernel)
theorem k_162 : Cond.selects yX4_findNextInTurn.cls yX4_findNextInTurn yX4_findNextInTurn ∈ WSG := memW (by decide +kernel) (by decide +kernel)
theorem k_163 : Cond.methodLink RX4 155 yX4_single ∈ WSG := memW (by decide +kernel) (by decide +kernel)
theorem k_164 : Cond.static yX4_single ∈ WSG := memW (by decide +kernel) (by decide +kernel)
theorem k_165 : Cond.methodLink RX4 151 yX4_findBestGiver ∈ WSG := memW (by decide +kernel) (by decide +kernel)
theorem k_166 : Cond.static yX4_findBestGiver ∈ WSG := memW (by decide +kernel) (by decide +kernel)
theorem k_167 : Cond.fieldLink RX4 192 "Swarmhall$Peer" "shownNow" "[I" ∈ WSG := memW (by decide +kernel) (by decide +kernel)
theorem k_168 : Cond.fieldLink RX4 177 "Swarmhall$Peer" "asks" "LSwarmhall$Asks;" ∈ WSG := memW (by decide +kernel) (by decide +kernel)
theorem k_169 : Cond.methodLink RX4 181 yX0_clear ∈ WSG := memW (by decide +kernel) (by decide +kernel)
theorem k_170 : Cond.instanceMethod yX0_clear ∈ WSG := memW (by decide +kernel) (by decide +kernel)
theorem k_171 : Cond.selects yX0_clear.cls yX0_clear yX0_clear ∈ WSG := memW (by decide +kernel) (by decide +kernel)
theorem k_172 : Cond.methodLink RX4 118 yX4_findChosen ∈ WSG := memW (by decide +kernel) (by decide +kernel)
theorem k_173 : Cond.instanceMethod yX4_findChosen ∈ WSG := memW (by decide +kernel) (by decide +kernel)
theorem k_174 : Cond.selects yX4_findChosen.cls yX4_findChosen yX4_findChosen ∈ WSG := memW (by decide +kernel) (by decide +kernel)
theorem k_175 : Cond.fieldLink RX4 186 "Swarmhall$Peer" "chosenNow" "I" ∈ WSG := memW (by decide +kernel) (by decide +kernel)
theorem k_176 : Cond.methodLink RX4 189 yX4_beginShowing ∈ WSG := memW (by decide +kernel) (by decide +kernel)
theorem k_177 : Cond.instanceMethod yX4_beginShowing ∈ WSG := memW (by decide +kernel) (by decide +kernel)
theorem k_178 : Cond.selects yX4_beginShowing.cls yX4_beginShowing yX4_beginShowing ∈ WSG := memW (by decide +kernel) (by decide +kernel)
theorem k_179 : Cond.constantLong RX4 273 (15) ∈ WSG := memW (by decide +kernel) (by decide +kernel)
theorem k_180 : Cond.methodLink RX4 216 yX4_blocksOfPiece ∈ WSG := memW (by decide +kernel) (by decide +kernel)
theorem k_181 : Cond.static yX4_blocksOfPiece ∈ WSG := memW (by decide +kernel) (by decide +kernel)
theorem k_182 : Cond.fieldLink RX4 107 "Swarmhall$Store" "has" "J" ∈ WSG := memW (by decide +kernel) (by decide +kernel)
theorem k_183 : Cond.fieldLink RX4 209 "Swarmhall$Asks" "asked" "J" ∈ WSG := memW (by decide +kernel) (by decide +kernel)
theorem k_184 : Cond.methodLink RX4 230 yX4_isBegun ∈ WSG := memW (by decide +kernel) (by decide +kernel)
theorem k_185 : Cond.static yX4_isBegun ∈ WSG := memW (by decide +kernel) (by decide +kernel)
theorem k_186 : Cond.methodLink RX4 226 yX4_isBetter ∈ WSG := memW (by decide +kernel) (by decide +kernel)
theorem k_187 : Cond.instanceMethod yX4_isBetter ∈ WSG := memW (by decide +kernel) (by decide +kernel)
theorem k_188 : Cond.selects yX4_isBetter.cls yX4_isBetter yX4_isBetter ∈ WSG := memW (by decide +kernel) (by decide +kernel)
theorem k_189 : Cond.methodLink RX4 199 yX4_blocksOf ∈ WSG := memW (by decide +kernel) (by decide +kernel)
theorem k_190 : Cond.static yX4_blocksOf ∈ WSG := memW (by decide +kernel) (by decide +kernel)
theorem k_191 : Cond.constantLong RX4 203 (-1) ∈ WSG := memW (by decide +kernel) (by decide +kernel)
theorem k_192 : Cond.methodLink RX4 219 yX4_findLowest ∈ WSG := memW (by decide +kernel) (by decide +kernel)
theorem k_193 : Cond.static yX4_findLowest ∈ WSG := memW (by decide +kernel) (by decide +kernel)
theorem k_194 : Cond.methodLink RX4 223 yX0_add ∈ WSG := memW (by decide +kernel) (by decide +kernel)
theorem k_195 : Cond.instanceMethod yX0_add ∈ WSG := memW (by decide +kernel) (by decide +kernel)
theorem k_196 : Cond.selects yX0_add.cls yX0_add yX0_add ∈ WSG := memW (by decide +kernel) (by decide +kernel)
theorem k_197 : Cond.methodLink RX4 212 yX4_findBestPiece ∈ WSG := memW (by decide +kernel) (by decide +kernel)
theorem k_198 : Cond.instanceMethod yX4_findBestPiece ∈ WSG := memW (by decide +kernel) (by decide +kernel)
theorem k_199 : Cond.selects yX4_findBestPiece.cls yX4_findBestPiece yX4_findBestPiece ∈ WSG := memW (by decide +kernel) (by decide +kernel)
theorem k_200 : Cond.methodLink RX4 205 yX4_askOne ∈ WSG := memW (by decide +kernel) (by decide +kernel)
theorem k_201 : Cond.instanceMethod yX4_askOne ∈ WSG := memW (by decide +kernel) (by decide +kernel)
theorem k_202 : Cond.selects yX4_askOne.cls yX4_askOne yX4_askOne ∈ WSG := memW (by decide +kernel) (by decide +kernel)
theorem k_203 : Cond.methodLink RX4 195 yX4_askOthers ∈ WSG := memW (by decide +kernel) (by decide +kernel)
theorem k_204 : Cond.instanceMethod yX4_askOthers ∈ WSG := memW (by decide +kernel) (by decide +kernel)
theorem k_205 : Cond.selects yX4_askOthers.cls yX4_askOthers yX4_askOthers ∈ WSG := memW (by decide +kernel) (by decide +kernel)
theorem k_206 : Cond.fieldLink RX4 237 "Swarmhall$Asks" "count" "I" ∈ WSG := memW (by decide +kernel) (by decide +kernel)
theorem k_207 : Cond.fieldLink RX4 240 "Swarmhall$Asks" "blocks" "[I" ∈ WSG := memW (by decide +kernel) (by decide +kernel)
theorem k_208 : Cond.fieldLink RX4 243 "Swarmhall$Asks" "others" "[I" ∈ WSG := memW (by decide +kernel) (by decide +kernel)
theorem k_209 : Cond.fieldLink RX4 98 "Swarmhall$Peer" "log" "LSwarmhall$Log;" ∈ WSG := memW (by decide +kernel) (by decide +kernel)
theorem k_210 : Cond.methodLink RX4 246 yX1_add ∈ WSG := memW (by decide +kernel) (by decide +kernel)
theorem k_211 : Cond.instanceMethod yX1_add ∈ WSG := memW (by decide +kernel) (by decide +kernel)
theorem k_212 : Cond.selects yX1_add.cls yX1_add yX1_add ∈ WSG := memW (by decide +kernel) (by decide +kernel)
theorem k_213 : Cond.methodLink RX4 249 yX3_take ∈ WSG := memW (by decide +kernel) (by decide +kernel)
theorem k_214 : Cond.instanceMethod yX3_take ∈ WSG := memW (by decide +kernel) (by decide +kernel)
theorem k_215 : Cond.selects yX3_take.cls yX3_take yX3_take ∈ WSG := memW (by decide +kernel) (by decide +kernel)
theorem k_216 : Cond.fieldLink RX4 125 "Swarmhall$Peer" "doublesCome" "I" ∈ WSG := memW (by decide +kernel) (by decide +kernel)
theorem k_217 : Cond.fieldLink RX4 253 "Swarmhall$Peer" "cameFrom" "[J" ∈ WSG := memW (by decide +kernel) (by decide +kernel)
theorem k_218 : Cond.methodLink RX4 234 yX4_comeTo ∈ WSG := memW (by decide +kernel) (by decide +kernel)
theorem k_219 : Cond.instanceMethod yX4_comeTo ∈ WSG := memW (by decide +kernel) (by decide +kernel)
theorem k_220 : Cond.selects yX4_comeTo.cls yX4_comeTo yX4_comeTo ∈ WSG := memW (by decide +kernel) (by decide +kernel)
theorem k_221 : Cond.constantLong RX3 26 (-1) ∈ WSG := memW (by decide +kernel) (by decide +kernel)
theorem k_222 : Cond.constantLong RX2 75 (-1) ∈ WSG := memW (by decide +kernel) (by decide +kernel)
theorem k_223 : Cond.methodLink RX3 32 yX3_isComplete ∈ WSG := memW (by decide +kernel) (by decide +kernel)
theorem k_224 : Cond.instanceMethod yX3_isComplete ∈ WSG := memW (by decide +kernel) (by decide +kernel)
theorem k_225 : Cond.selects yX3_isComplete.cls yX3_isComplete yX3_isComplete ∈ WSG := memW (by decide +kernel) (by decide +kernel)
theorem k_226 : Cond.methodLink RX3 36 yX3_isSound ∈ WSG := memW (by decide +kernel) (by decide +kernel)
theorem k_227 : Cond.instanceMethod yX3_isSound ∈ WSG := memW (by decide +kernel) (by decide +kernel)
theorem k_228 : Cond.selects yX3_isSound.cls yX3_isSound yX3_isSound ∈ WSG := memW (by decide +kernel) (by decide +kernel)
theorem k_229 : Cond.methodLink RX4 270 yX3_settleAll ∈ WSG := memW (by decide +kernel) (by decide +kernel)
theorem k_230 : Cond.instanceMethod yX3_settleAll ∈ WSG := memW (by decide +kernel) (by decide +kernel)
theorem k_231 : Cond.selects yX3_settleAll.cls yX3_settleAll yX3_settleAll ∈ WSG := memW (by decide +kernel) (by decide +kernel)
theorem k_232 : Cond.methodLink RX4 257 yX3_isComplete ∈ WSG := memW (by decide +kernel) (by decide +kernel)
theorem k_233 : Cond.methodLink RX4 261 yX3_isSound ∈ WSG := memW (by decide +kernel) (by decide +kernel)
theorem k_234 : Cond.methodLink RX4 267 yX2_forgetSenders ∈ WSG := memW (by decide +kernel) (by decide +kernel)
theorem k_235 : Cond.instanceMethod yX2_forgetSenders ∈ WSG := memW (by decide +kernel) (by decide +kernel)
theorem k_236 : Cond.selects yX2_forgetSenders.cls yX2_forgetSenders yX2_forgetSenders ∈ WSG := memW (by decide +kernel) (by decide +kernel)
theorem k_237 : Cond.methodLink RX4 264 yX2_blame ∈ WSG := memW (by decide +kernel) (by decide +kernel)
theorem k_238 : Cond.instanceMethod yX2_blame ∈ WSG := memW (by decide +kernel) (by decide +kernel)
theorem k_239 : Cond.selects yX2_blame.cls yX2_blame yX2_blame ∈ WSG := memW (by decide +kernel) (by decide +kernel)
theorem k_240 : Cond.methodLink RX4 164 yX4_begin ∈ WSG := memW (by decide +kernel) (by decide +kernel)
theorem k_241 : Cond.instanceMethod yX4_begin ∈ WSG := memW (by decide +kernel) (by decide +kernel)
theorem k_242 : Cond.selects yX4_begin.cls yX4_begin yX4_begin ∈ WSG := memW (by decide +kernel) (by decide +kernel)
theorem k_243 : Cond.methodLink RX4 167 yX4_askAll ∈ WSG := memW (by decide +kernel) (by decide +kernel)
theorem k_244 : Cond.instanceMethod yX4_askAll ∈ WSG := memW (by decide +kernel) (by decide +kernel)
theorem k_245 : Cond.selects yX4_askAll.cls yX4_askAll yX4_askAll ∈ WSG := memW (by decide +kernel) (by decide +kernel)
theorem k_246 : Cond.methodLink RX4 170 yX4_comeAll ∈ WSG := memW (by decide +kernel) (by decide +kernel)
theorem k_247 : Cond.instanceMethod yX4_comeAll ∈ WSG := memW (by decide +kernel) (by decide +kernel)
theorem k_248 : Cond.selects yX4_comeAll.cls yX4_comeAll yX4_comeAll ∈ WSG := memW (by decide +kernel) (by decide +kernel)
theorem k_249 : Cond.methodLink RX4 173 yX4_settle ∈ WSG := memW (by decide +kernel) (by decide +kernel)
theorem k_250 : Cond.static yX4_settle ∈ WSG := memW (by decide +kernel) (by decide +kernel)
theorem k_251 : Cond.methodLink RX4 94 yX4_runRound ∈ WSG := memW (by decide +kernel) (by decide +kernel)
theorem k_252 : Cond.instanceMethod yX4_runRound ∈ WSG := memW (by decide +kernel) (by decide +kernel)
theorem k_253 : Cond.selects yX4_runRound.cls yX4_runRound yX4_runRound ∈ WSG := memW (by decide +kernel) (by decide +kernel)
theorem k_254 : Cond.methodLink RL 38 yX4_run ∈ WSG := memW (by decide +kernel) (by decide +kernel)
theorem k_255 : Cond.instanceMethod yX4_run ∈ WSG := memW (by decide +kernel) (by decide +kernel)
theorem k_256 : Cond.selects yX4_run.cls yX4_run yX4_run ∈ WSG := memW (by decide +kernel) (by decide +kernel)
theorem k_257 : Cond.methodLink RX5 93 yX5_holdersOf ∈ WSG := memW (by decide +kernel) (by decide +kernel)
theorem k_258 : Cond.instanceMethod yX5_holdersOf ∈ WSG := memW (by decide +kernel) (by decide +kernel)
theorem k_259 : Cond.selects yX5_holdersOf.cls yX5_holdersOf yX5_holdersOf ∈ WSG := memW (by decide +kernel) (by decide +kernel)
theorem k_260 : Cond.methodLink RX5 96 yX5_pair ∈ WSG := memW (by decide +kernel) (by decide +kernel)
theorem k_261 : Cond.static yX5_pair ∈ WSG := memW (by decide +kernel) (by decide +kernel)
theorem k_262 : Cond.methodLink RX5 100 yX5_shownBy ∈ WSG := memW (by decide +kernel) (by decide +kernel)
theorem k_263 : Cond.instanceMethod yX5_shownBy ∈ WSG := memW (by decide +kernel) (by decide +kernel)
theorem k_264 : Cond.selects yX5_shownBy.cls yX5_shownBy yX5_shownBy ∈ WSG := memW (by decide +kernel) (by decide +kernel)
theorem k_265 : Cond.methodLink RX5 103 yX5_lackedBy ∈ WSG := memW (by decide +kernel) (by decide +kernel)
theorem k_266 : Cond.instanceMethod yX5_lackedBy ∈ WSG := memW (by decide +kernel) (by decide +kernel)
theorem k_267 : Cond.selects yX5_lackedBy.cls yX5_lackedBy yX5_lackedBy ∈ WSG := memW (by decide +kernel) (by decide +kernel)
theorem k_268 : Cond.fieldLink RX5 109 "SwarmhallModel" "rounds" "I" ∈ WSG := memW (by decide +kernel) (by decide +kernel)
theorem k_269 : Cond.methodLink RX5 106 yX5_wants ∈ WSG := memW (by decide +kernel) (by decide +kernel)
theorem k_270 : Cond.instanceMethod yX5_wants ∈ WSG := memW (by decide +kernel) (by decide +kernel)
theorem k_271 : Cond.selects yX5_wants.cls yX5_wants yX5_wants ∈ WSG := memW (by decide +kernel) (by decide +kernel)
theorem k_272 : Cond.methodLink RX5 112 yX5_choiceOf ∈ WSG := memW (by decide +kernel) (by decide +kernel)
theorem k_273 : Cond.instanceMethod yX5_choiceOf ∈ WSG := memW (by decide +kernel) (by decide +kernel)
theorem k_274 : Cond.selects yX5_choiceOf.cls yX5_choiceOf yX5_choiceOf ∈ WSG := memW (by decide +kernel) (by decide +kernel)
theorem k_275 : Cond.methodLink RX5 115 yX5_at ∈ WSG := memW (by decide +kernel) (by decide +kernel)
theorem k_276 : Cond.static yX5_at ∈ WSG := memW (by decide +kernel) (by decide +kernel)
theorem k_277 : Cond.methodLink RX5 125 yX5_hasAskedAll ∈ WSG := memW (by decide +kernel) (by decide +kernel)
theorem k_278 : Cond.instanceMethod yX5_hasAskedAll ∈ WSG := memW (by decide +kernel) (by decide +kernel)
theorem k_279 : Cond.selects yX5_hasAskedAll.cls yX5_hasAskedAll yX5_hasAskedAll ∈ WSG := memW (by decide +kernel) (by decide +kernel)
theorem k_280 : Cond.methodLink RX5 122 yX5_lowest ∈ WSG := memW (by decide +kernel) (by decide +kernel)
theorem k_281 : Cond.static yX5_lowest ∈ WSG := memW (by decide +kernel) (by decide +kernel)
theorem k_282 : Cond.methodLink RX5 118 yX5_isBetter ∈ WSG := memW (by decide +kernel) (by decide +kernel)
theorem k_283 : Cond.instanceMethod yX5_isBetter ∈ WSG := memW (by decide +kernel) (by decide +kernel)
theorem k_284 : Cond.selects yX5_isBetter.cls yX5_isBetter yX5_isBetter ∈ WSG := memW (by decide +kernel) (by decide +kernel)
theorem k_285 : Cond.fieldLink RX5 128 "SwarmhallModel" "many" "I" ∈ WSG := memW (by decide +kernel) (by decide +kernel)
theorem k_286 : Cond.methodLink RX5 131 yX5_blockFor ∈ WSG := memW (by decide +kernel) (by decide +kernel)
theorem k_287 : Cond.instanceMethod yX5_blockFor ∈ WSG := memW (by decide +kernel) (by decide +kernel)
theorem k_288 : Cond.selects yX5_blockFor.cls yX5_blockFor yX5_blockFor ∈ WSG := memW (by decide +kernel) (by decide +kernel)
theorem k_289 : Cond.methodLink RX5 134 yX5_drops ∈ WSG := memW (by decide +kernel) (by decide +kernel)
theorem k_290 : Cond.instanceMethod yX5_drops ∈ WSG := memW (by decide +kernel) (by decide +kernel)
theorem k_291 : Cond.selects yX5_drops.cls yX5_drops yX5_drops ∈ WSG := memW (by decide +kernel) (by decide +kernel)
theorem k_292 : Cond.methodLink RX5 138 yX5_looks ∈ WSG := memW (by decide +kernel) (by decide +kernel)
theorem k_293 : Cond.instanceMethod yX5_looks ∈ WSG := memW (by decide +kernel) (by decide +kernel)
theorem k_294 : Cond.selects yX5_looks.cls yX5_looks yX5_looks ∈ WSG := memW (by decide +kernel) (by decide +kernel)
theorem k_295 : Cond.methodLink RX5 141 yX5_asks ∈ WSG := memW (by decide +kernel) (by decide +kernel)
theorem k_296 : Cond.instanceMethod yX5_asks ∈ WSG := memW (by decide +kernel) (by decide +kernel)
theorem k_297 : Cond.selects yX5_asks.cls yX5_asks yX5_asks ∈ WSG := memW (by decide +kernel) (by decide +kernel)
theorem k_298 : Cond.methodLink RX5 144 yX5_comes ∈ WSG := memW (by decide +kernel) (by decide +kernel)
theorem k_299 : Cond.instanceMethod yX5_comes ∈ WSG := memW (by decide +kernel) (by decide +kernel)
theorem k_300 : Cond.selects yX5_comes.cls yX5_comes yX5_comes ∈ WSG := memW (by decide +kernel) (by decide +kernel)
theorem k_301 : Cond.methodLink RX5 148 yX5_ends ∈ WSG := memW (by decide +kernel) (by decide +kernel)
theorem k_302 : Cond.instanceMethod yX5_ends ∈ WSG := memW (by decide +kernel) (by decide +kernel)
theorem k_303 : Cond.selects yX5_ends.cls yX5_ends yX5_ends ∈ WSG := memW (by decide +kernel) (by decide +kernel)
theorem k_304 : Cond.methodLink RL 41 yX4_holds ∈ WSG := memW (by decide +kernel) (by decide +kernel)
theorem k_305 : Cond.instanceMethod yX4_holds ∈ WSG := memW (by decide +kernel) (by decide +kernel)
theorem k_306 : Cond.selects yX4_holds.cls yX4_holds yX4_holds ∈ WSG := memW (by decide +kernel) (by decide +kernel)
theorem k_307 : Cond.classLink RX1 22 RX3 ∈ WSG := memW (by decide +kernel) (by decide +kernel)
theorem k_308 : Cond.methodLink RX1 24 yX3_init ∈ WSG := memW (by decide +kernel) (by decide +kernel)
theorem k_309 : Cond.methodLink RX1 27 yX3_settleAll ∈ WSG := memW (by decide +kernel) (by decide +kernel)
theorem k_310 : Cond.fieldLink RX1 34 "Swarmhall$Store" "held" "I" ∈ WSG := memW (by decide +kernel) (by decide +kernel)
theorem k_311 : Cond.methodLink RX1 30 yX3_take ∈ WSG := memW (by decide +kernel) (by decide +kernel)
theorem k_312 : Cond.methodLink RX4 102 yX1_replayHeld ∈ WSG := memW (by decide +kernel) (by decide +kernel)
theorem k_313 : Cond.instanceMethod yX1_replayHeld ∈ WSG := memW (by decide +kernel) (by decide +kernel)
theorem k_314 : Cond.selects yX1_replayHeld.cls yX1_replayHeld yX1_replayHeld ∈ WSG := memW (by decide +kernel) (by decide +kernel)
theorem k_315 : Cond.methodLink RL 44 yX4_holdsByLog ∈ WSG := memW (by decide +kernel) (by decide +kernel)
theorem k_316 : Cond.instanceMethod yX4_holdsByLog ∈ WSG := memW (by decide +kernel) (by decide +kernel)
theorem k_317 : Cond.selects yX4_holdsByLog.cls yX4_holdsByLog yX4_holdsByLog ∈ WSG := memW (by decide +kernel) (by decide +kernel)
theorem k_318 : Cond.methodLink RL 47 yX4_blocks ∈ WSG := memW (by decide +kernel) (by decide +kernel)
theorem k_319 : Cond.instanceMethod yX4_blocks ∈ WSG := memW (by decide +kernel) (by decide +kernel)
theorem k_320 : Cond.selects yX4_blocks.cls yX4_blocks yX4_blocks ∈ WSG := memW (by decide +kernel) (by decide +kernel)
theorem k_321 : Cond.methodLink RL 50 yX4_holders ∈ WSG := memW (by decide +kernel) (by decide +kernel)
theorem k_322 : Cond.instanceMethod yX4_holders ∈ WSG := memW (by decide +kernel) (by decide +kernel)
theorem k_323 : Cond.selects yX4_holders.cls yX4_holders yX4_holders ∈ WSG := memW (by decide +kernel) (by decide +kernel)
theorem k_324 : Cond.methodLink RL 53 yX4_shown ∈ WSG := memW (by decide +kernel) (by decide +kernel)
theorem k_325 : Cond.instanceMethod yX4_shown ∈ WSG := memW (by decide +kernel) (by decide +kernel)
theorem k_326 : Cond.selects yX4_shown.cls yX4_shown yX4_shown ∈ WSG := memW (by decide +kernel) (by decide +kernel)
theorem k_327 : Cond.methodLink RX5 151 yX5_arePeers ∈ WSG := memW (by decide +kernel) (by decide +kernel)
theorem k_328 : Cond.instanceMethod yX5_arePeers ∈ WSG := memW (by decide +kernel) (by decide +kernel)
theorem k_329 : Cond.selects yX5_arePeers.cls yX5_arePeers yX5_arePeers ∈ WSG := memW (by decide +kernel) (by decide +kernel)
theorem k_330 : Cond.methodLink RL 56 yX4_chosen ∈ WSG := memW (by decide +kernel) (by decide +kernel)
theorem k_331 : Cond.instanceMethod yX4_chosen ∈ WSG := memW (by decide +kernel) (by decide +kernel)
theorem k_332 : Cond.selects yX4_chosen.cls yX4_chosen yX4_chosen ∈ WSG := memW (by decide +kernel) (by decide +kernel)
theorem k_333 : Cond.methodLink RL 59 yX4_got ∈ WSG := memW (by decide +kernel) (by decide +kernel)
theorem k_334 : Cond.instanceMethod yX4_got ∈ WSG := memW (by decide +kernel) (by decide +kernel)
theorem k_335 : Cond.selects yX4_got.cls yX4_got yX4_got ∈ WSG := memW (by decide +kernel) (by decide +kernel)
theorem k_336 : Cond.methodLink RL 62 yX4_doubles ∈ WSG := memW (by decide +kernel) (by decide +kernel)
theorem k_337 : Cond.instanceMethod yX4_doubles ∈ WSG := memW (by decide +kernel) (by decide +kernel)
theorem k_338 : Cond.selects yX4_doubles.cls yX4_doubles yX4_doubles ∈ WSG := memW (by decide +kernel) (by decide +kernel)
theorem k_339 : Cond.fieldLink RX4 128 "Swarmhall$Peer" "strikesAgainst" "[I" ∈ WSG := memW (by decide +kernel) (by decide +kernel)
theorem k_340 : Cond.methodLink RL 65 yX4_strikes ∈ WSG := memW (by decide +kernel) (by decide +kernel)
theorem k_341 : Cond.instanceMethod yX4_strikes ∈ WSG := memW (by decide +kernel) (by decide +kernel)
theorem k_342 : Cond.selects yX4_strikes.cls yX4_strikes yX4_strikes ∈ WSG := memW (by decide +kernel) (by decide +kernel)
theorem k_343 : Cond.methodLink RL 68 yX4_isBanned ∈ WSG := memW (by decide +kernel) (by decide +kernel)
theorem k_344 : Cond.instanceMethod yX4_isBanned ∈ WSG := memW (by decide +kernel) (by decide +kernel)
theorem k_345 : Cond.selects yX4_isBanned.cls yX4_isBanned yX4_isBanned ∈ WSG := memW (by decide +kernel) (by decide +kernel)
theorem kn_1 : Cond.methodLinkNest RX2 11 yX0_init "Swarmhall" ∈ NG := memN (by decide +kernel) (by decide +kernel)
theorem kn_2 : Cond.castable (exN 0) (exN 0) ∈ NG := memN (by decide +kernel) (by decide +kernel)
theorem kn_3 : Cond.castable (exN 1) (exN 1) ∈ NG := memN (by decide +kernel) (by decide +kernel)
theorem kn_4 : Cond.castable (exN 2) (exN 2) ∈ NG := memN (by decide +kernel) (by decide +kernel)
theorem kn_5 : Cond.methodLinkNest RX3 22 yX4_isIn "Swarmhall" ∈ NG := memN (by decide +kernel) (by decide +kernel)
theorem kn_6 : Cond.methodLinkNest RX3 28 yX4_blocksOfPiece "Swarmhall" ∈ NG := memN (by decide +kernel) (by decide +kernel)
theorem kn_7 : Cond.methodLinkNest RX2 71 yX4_blocksOfPiece "Swarmhall" ∈ NG := memN (by decide +kernel) (by decide +kernel)
theorem cy_J7_fill_53178 : CallY yJ7_fill_53178 cJ7_fill_53178 4 none 2 := ⟨memW (by decide +kernel) (by decide +kernel), memW (by decide +kernel) (by decide +kernel), by decide, by decide, by decide +kernel⟩
theorem cy_X0_init : CallY yX0_init cX0_init 1 none 0 := ⟨memW (by decide +kernel) (by decide +kernel), memW (by decide +kernel) (by decide +kernel), by decide, by decide, by decide +kernel⟩
theorem cy_X3_init : CallY yX3_init cX3_init 2 none 1 := ⟨memW (by decide +kernel) (by decide +kernel), memW (by decide +kernel) (by decide +kernel), by decide, by decide, by decide +kernel⟩
theorem cy_X1_init : CallY yX1_init cX1_init 2 none 1 := ⟨memW (by decide +kernel) (by decide +kernel), memW (by decide +kernel) (by decide +kernel), by decide, by decide, by decide +kernel⟩
theorem cy_X2_init : CallY yX2_init cX2_init 3 none 2 := ⟨memW (by decide +kernel) (by decide +kernel), memW (by decide +kernel) (by decide +kernel), by decide, by decide, by decide +kernel⟩
theorem cy_X4_join : CallY yX4_join cX4_join 3 (some .int) 1 := ⟨memW (by decide +kernel) (by decide +kernel), memW (by decide +kernel) (by decide +kernel), by decide, by decide, by decide +kernel⟩
theorem cy_X5_fits : CallY yX5_fits cX5_fits 2 (some .boolean) 1 := ⟨memW (by decide +kernel) (by decide +kernel), memW (by decide +kernel) (by decide +kernel), by decide, by decide, by decide +kernel⟩
theorem cy_X4_find : CallY yX4_find cX4_find 2 (some (.object "Swarmhall$Peer")) 1 := ⟨memW (by decide +kernel) (by decide +kernel), memW (by decide +kernel) (by decide +kernel), by decide, by decide, by decide +kernel⟩
theorem cy_X4_known : CallY yX4_known cX4_known 3 (some (.object "Swarmhall$Peer")) 1 := ⟨memW (by decide +kernel) (by decide +kernel), memW (by decide +kernel) (by decide +kernel), by decide, by decide, by decide +kernel⟩
theorem cy_J6_bitCount_0f7a4 : CallY yJ6_bitCount_0f7a4 cJ6_bitCount_0f7a4 1 (some .int) 1 := ⟨memW (by decide +kernel) (by decide +kernel), memW (by decide +kernel) (by decide +kernel), by decide, by decide, by decide +kernel⟩
theorem cy_X4_leave : CallY yX4_leave cX4_leave 3 (some .int) 1 := ⟨memW (by decide +kernel) (by decide +kernel), memW (by decide +kernel) (by decide +kernel), by decide, by decide, by decide +kernel⟩
theorem cy_X5_isPeer : CallY yX5_isPeer cX5_isPeer 2 (some .boolean) 1 := ⟨memW (by decide +kernel) (by decide +kernel), memW (by decide +kernel) (by decide +kernel), by decide, by decide, by decide +kernel⟩
theorem cy_X5_count : CallY yX5_count cX5_count 3 (some .int) 1 := ⟨memW (by decide +kernel) (by decide +kernel), memW (by decide +kernel) (by decide +kernel), by decide, by decide, by decide +kernel⟩
theorem cy_X4_checkPiece : CallY yX4_checkPiece cX4_checkPiece 1 none 1 := ⟨memW (by decide +kernel) (by decide +kernel), memW (by decide +kernel) (by decide +kernel), by decide, by decide, by decide +kernel⟩
theorem cy_X4_setPriority : CallY yX4_setPriority cX4_setPriority 4 (some .int) 2 := ⟨memW (by decide +kernel) (by decide +kernel), memW (by decide +kernel) (by decide +kernel), by decide, by decide, by decide +kernel⟩
theorem cy_X5_isPiece : CallY yX5_isPiece cX5_isPiece 1 (some .boolean) 1 := ⟨memW (by decide +kernel) (by decide +kernel), memW (by decide +kernel) (by decide +kernel), by decide, by decide, by decide +kernel⟩
theorem cy_X4_setSequence : CallY yX4_setSequence cX4_setSequence 5 (some .boolean) 2 := ⟨memW (by decide +kernel) (by decide +kernel), memW (by decide +kernel) (by decide +kernel), by decide, by decide, by decide +kernel⟩
theorem cy_X4_setCareful : CallY yX4_setCareful cX4_setCareful 5 (some .boolean) 2 := ⟨memW (by decide +kernel) (by decide +kernel), memW (by decide +kernel) (by decide +kernel), by decide, by decide, by decide +kernel⟩
theorem cy_X4_isIn : CallY yX4_isIn cX4_isIn 3 (some .boolean) 2 := ⟨memW (by decide +kernel) (by decide +kernel), memW (by decide +kernel) (by decide +kernel), by decide, by decide, by decide +kernel⟩
theorem cy_X4_spoil : CallY yX4_spoil cX4_spoil 6 (some .boolean) 3 := ⟨memW (by decide +kernel) (by decide +kernel), memW (by decide +kernel) (by decide +kernel), by decide, by decide, by decide +kernel⟩
theorem cy_X5_has : CallY yX5_has cX5_has 2 (some .boolean) 2 := ⟨memW (by decide +kernel) (by decide +kernel), memW (by decide +kernel) (by decide +kernel), by decide, by decide, by decide +kernel⟩
theorem cy_X4_countHolders : CallY yX4_countHolders cX4_countHolders 7 (some .int) 1 := ⟨memW (by decide +kernel) (by decide +kernel), memW (by decide +kernel) (by decide +kernel), by decide, by decide, by decide +kernel⟩
theorem cy_X4_findRarest : CallY yX4_findRarest cX4_findRarest 8 (some .int) 2 := ⟨memW (by decide +kernel) (by decide +kernel), memW (by decide +kernel) (by decide +kernel), by decide, by decide, by decide +kernel⟩
theorem cy_X4_wantedPieces : CallY yX4_wantedPieces cX4_wantedPieces 3 (some .int) 0 := ⟨memW (by decide +kernel) (by decide +kernel), memW (by decide +kernel) (by decide +kernel), by decide, by decide, by decide +kernel⟩
theorem cy_X4_findShown : CallY yX4_findShown cX4_findShown 4 (some .int) 2 := ⟨memW (by decide +kernel) (by decide +kernel), memW (by decide +kernel) (by decide +kernel), by decide, by decide, by decide +kernel⟩
theorem cy_X4_findInterested : CallY yX4_findInterested cX4_findInterested 8 (some .int) 1 := ⟨memW (by decide +kernel) (by decide +kernel), memW (by decide +kernel) (by decide +kernel), by decide, by decide, by decide +kernel⟩
theorem cy_X4_findNextInTurn : CallY yX4_findNextInTurn cX4_findNextInTurn 4 (some .int) 1 := ⟨memW (by decide +kernel) (by decide +kernel), memW (by decide +kernel) (by decide +kernel), by decide, by decide, by decide +kernel⟩
theorem cy_X4_single : CallY yX4_single cX4_single 1 (some .int) 1 := ⟨memW (by decide +kernel) (by decide +kernel), memW (by decide +kernel) (by decide +kernel), by decide, by decide, by decide +kernel⟩
theorem cy_X4_findBestGiver : CallY yX4_findBestGiver cX4_findBestGiver 5 (some .int) 2 := ⟨memW (by decide +kernel) (by decide +kernel), memW (by decide +kernel) (by decide +kernel), by decide, by decide, by decide +kernel⟩
theorem cy_X0_clear : CallY yX0_clear cX0_clear 1 none 0 := ⟨memW (by decide +kernel) (by decide +kernel), memW (by decide +kernel) (by decide +kernel), by decide, by decide, by decide +kernel⟩
theorem cy_X4_findChosen : CallY yX4_findChosen cX4_findChosen 6 (some .int) 1 := ⟨memW (by decide +kernel) (by decide +kernel), memW (by decide +kernel) (by decide +kernel), by decide, by decide, by decide +kernel⟩
theorem cy_X4_beginShowing : CallY yX4_beginShowing cX4_beginShowing 6 none 1 := ⟨memW (by decide +kernel) (by decide +kernel), memW (by decide +kernel) (by decide +kernel), by decide, by decide, by decide +kernel⟩
theorem cy_X4_blocksOfPiece : CallY yX4_blocksOfPiece cX4_blocksOfPiece 1 (some .long) 1 := ⟨memW (by decide +kernel) (by decide +kernel), memW (by decide +kernel) (by decide +kernel), by decide, by decide, by decide +kernel⟩
theorem cy_X4_isBegun : CallY yX4_isBegun cX4_isBegun 2 (some .boolean) 2 := ⟨memW (by decide +kernel) (by decide +kernel), memW (by decide +kernel) (by decide +kernel), by decide, by decide, by decide +kernel⟩
theorem cy_X4_isBetter : CallY yX4_isBetter cX4_isBetter 5 (some .boolean) 3 := ⟨memW (by decide +kernel) (by decide +kernel), memW (by decide +kernel) (by decide +kernel), by decide, by decide, by decide +kernel⟩
theorem cy_X4_blocksOf : CallY yX4_blocksOf cX4_blocksOf 4 (some .long) 1 := ⟨memW (by decide +kernel) (by decide +kernel), memW (by decide +kernel) (by decide +kernel), by decide, by decide, by decide +kernel⟩
theorem cy_X4_findLowest : CallY yX4_findLowest cX4_findLowest 3 (some .int) 1 := ⟨memW (by decide +kernel) (by decide +kernel), memW (by decide +kernel) (by decide +kernel), by decide, by decide, by decide +kernel⟩
theorem cy_X0_add : CallY yX0_add cX0_add 3 none 2 := ⟨memW (by decide +kernel) (by decide +kernel), memW (by decide +kernel) (by decide +kernel), by decide, by decide, by decide +kernel⟩
theorem cy_X4_findBestPiece : CallY yX4_findBestPiece cX4_findBestPiece 6 (some .int) 2 := ⟨memW (by decide +kernel) (by decide +kernel), memW (by decide +kernel) (by decide +kernel), by decide, by decide, by decide +kernel⟩
theorem cy_X4_askOne : CallY yX4_askOne cX4_askOne 10 none 3 := ⟨memW (by decide +kernel) (by decide +kernel), memW (by decide +kernel) (by decide +kernel), by decide, by decide, by decide +kernel⟩
theorem cy_X4_askOthers : CallY yX4_askOthers cX4_askOthers 9 none 2 := ⟨memW (by decide +kernel) (by decide +kernel), memW (by decide +kernel) (by decide +kernel), by decide, by decide, by decide +kernel⟩
theorem cy_X1_add : CallY yX1_add cX1_add 4 none 3 := ⟨memW (by decide +kernel) (by decide +kernel), memW (by decide +kernel) (by decide +kernel), by decide, by decide, by decide +kernel⟩
theorem cy_X3_take : CallY yX3_take cX3_take 3 (some .boolean) 2 := ⟨memW (by decide +kernel) (by decide +kernel), memW (by decide +kernel) (by decide +kernel), by decide, by decide, by decide +kernel⟩
theorem cy_X4_comeTo : CallY yX4_comeTo cX4_comeTo 8 (some .int) 1 := ⟨memW (by decide +kernel) (by decide +kernel), memW (by decide +kernel) (by decide +kernel), by decide, by decide, by decide +kernel⟩
theorem cy_X3_isComplete : CallY yX3_isComplete cX3_isComplete 2 (some .boolean) 1 := ⟨memW (by decide +kernel) (by decide +kernel), memW (by decide +kernel) (by decide +kernel), by decide, by decide, by decide +kernel⟩
theorem cy_X3_isSound : CallY yX3_isSound cX3_isSound 2 (some .boolean) 1 := ⟨memW (by decide +kernel) (by decide +kernel), memW (by decide +kernel) (by decide +kernel), by decide, by decide, by decide +kernel⟩
theorem cy_X3_settleAll : CallY yX3_settleAll cX3_settleAll 2 none 0 := ⟨memW (by decide +kernel) (by decide +kernel), memW (by decide +kernel) (by decide +kernel), by decide, by decide, by decide +kernel⟩
theorem cy_X2_forgetSenders : CallY yX2_forgetSenders cX2_forgetSenders 3 none 1 := ⟨memW (by decide +kernel) (by decide +kernel), memW (by decide +kernel) (by decide +kernel), by decide, by decide, by decide +kernel⟩
theorem cy_X2_blame : CallY yX2_blame cX2_blame 7 none 1 := ⟨memW (by decide +kernel) (by decide +kernel), memW (by decide +kernel) (by decide +kernel), by decide, by decide, by decide +kernel⟩
theorem cy_X4_begin : CallY yX4_begin cX4_begin 5 none 0 := ⟨memW (by decide +kernel) (by decide +kernel), memW (by decide +kernel) (by decide +kernel), by decide, by decide, by decide +kernel⟩
theorem cy_X4_askAll : CallY yX4_askAll cX4_askAll 6 none 0 := ⟨memW (by decide +kernel) (by decide +kernel), memW (by decide +kernel) (by decide +kernel), by decide, by decide, by decide +kernel⟩
theorem cy_X4_comeAll : CallY yX4_comeAll cX4_comeAll 6 (some .int) 0 := ⟨memW (by decide +kernel) (by decide +kernel), memW (by decide +kernel) (by decide +kernel), by decide, by decide, by decide +kernel⟩
theorem cy_X4_settle : CallY yX4_settle cX4_settle 2 none 1 := ⟨memW (by decide +kernel) (by decide +kernel), memW (by decide +kernel) (by decide +kernel), by decide, by decide, by decide +kernel⟩
theorem cy_X4_runRound : CallY yX4_runRound cX4_runRound 6 (some .int) 0 := ⟨memW (by decide +kernel) (by decide +kernel), memW (by decide +kernel) (by decide +kernel), by decide, by decide, by decide +kernel⟩
theorem cy_X4_run : CallY yX4_run cX4_run 4 (some .int) 1 := ⟨memW (by decide +kernel) (by decide +kernel), memW (by decide +kernel) (by decide +kernel), by decide, by decide, by decide +kernel⟩
theorem cy_X5_holdersOf : CallY yX5_holdersOf cX5_holdersOf 4 (some .int) 1 := ⟨memW (by decide +kernel) (by decide +kernel), memW (by decide +kernel) (by decide +kernel), by decide, by decide, by decide +kernel⟩
theorem cy_X5_pair : CallY yX5_pair cX5_pair 2 (some .int) 2 := ⟨memW (by decide +kernel) (by decide +kernel), memW (by decide +kernel) (by decide +kernel), by decide, by decide, by decide +kernel⟩
theorem cy_X5_shownBy : CallY yX5_shownBy cX5_shownBy 7 (some .int) 2 := ⟨memW (by decide +kernel) (by decide +kernel), memW (by decide +kernel) (by decide +kernel), by decide, by decide, by decide +kernel⟩
theorem cy_X5_lackedBy : CallY yX5_lackedBy cX5_lackedBy 4 (some .int) 1 := ⟨memW (by decide +kernel) (by decide +kernel), memW (by decide +kernel) (by decide +kernel), by decide, by decide, by decide +kernel⟩
theorem cy_X5_wants : CallY yX5_wants cX5_wants 4 (some .boolean) 2 := ⟨memW (by decide +kernel) (by decide +kernel), memW (by decide +kernel) (by decide +kernel), by decide, by decide, by decide +kernel⟩
theorem cy_X5_choiceOf : CallY yX5_choiceOf cX5_choiceOf 8 (some .int) 1 := ⟨memW (by decide +kernel) (by decide +kernel), memW (by decide +kernel) (by decide +kernel), by decide, by decide, by decide +kernel⟩
theorem cy_X5_at : CallY yX5_at cX5_at 2 (some .int) 2 := ⟨memW (by decide +kernel) (by decide +kernel), memW (by decide +kernel) (by decide +kernel), by decide, by decide, by decide +kernel⟩
theorem cy_X5_hasAskedAll : CallY yX5_hasAskedAll cX5_hasAskedAll 5 (some .boolean) 1 := ⟨memW (by decide +kernel) (by decide +kernel), memW (by decide +kernel) (by decide +kernel), by decide, by decide, by decide +kernel⟩
theorem cy_X5_lowest : CallY yX5_lowest cX5_lowest 2 (some .int) 1 := ⟨memW (by decide +kernel) (by decide +kernel), memW (by decide +kernel) (by decide +kernel), by decide, by decide, by decide +kernel⟩
theorem cy_X5_isBetter : CallY yX5_isBetter cX5_isBetter 7 (some .boolean) 3 := ⟨memW (by decide +kernel) (by decide +kernel), memW (by decide +kernel) (by decide +kernel), by decide, by decide, by decide +kernel⟩
theorem cy_X5_blockFor : CallY yX5_blockFor cX5_blockFor 9 (some .int) 2 := ⟨memW (by decide +kernel) (by decide +kernel), memW (by decide +kernel) (by decide +kernel), by decide, by decide, by decide +kernel⟩
theorem cy_X5_drops : CallY yX5_drops cX5_drops 6 none 2 := ⟨memW (by decide +kernel) (by decide +kernel), memW (by decide +kernel) (by decide +kernel), by decide, by decide, by decide +kernel⟩
theorem cy_X5_looks : CallY yX5_looks cX5_looks 3 none 0 := ⟨memW (by decide +kernel) (by decide +kernel), memW (by decide +kernel) (by decide +kernel), by decide, by decide, by decide +kernel⟩
theorem cy_X5_asks : CallY yX5_asks cX5_asks 4 none 0 := ⟨memW (by decide +kernel) (by decide +kernel), memW (by decide +kernel) (by decide +kernel), by decide, by decide, by decide +kernel⟩
theorem cy_X5_comes : CallY yX5_comes cX5_comes 5 (some .int) 0 := ⟨memW (by decide +kernel) (by decide +kernel), memW (by decide +kernel) (by decide +kernel), by decide, by decide, by decide +kernel⟩
theorem cy_X5_ends : CallY yX5_ends cX5_ends 4 none 0 := ⟨memW (by decide +kernel) (by decide +kernel), memW (by decide +kernel) (by decide +kernel), by decide, by decide, by decide +kernel⟩
theorem cy_X4_holds : CallY yX4_holds cX4_holds 2 (some .int) 1 := ⟨memW (by decide +kernel) (by decide +kernel), memW (by decide +kernel) (by decide +kernel), by decide, by decide, by decide +kernel⟩
theorem cy_X1_replayHeld : CallY yX1_replayHeld cX1_replayHeld 5 (some .int) 0 := ⟨memW (by decide +kernel) (by decide +kernel), memW (by decide +kernel) (by decide +kernel), by decide, by decide, by decide +kernel⟩
theorem cy_X4_holdsByLog : CallY yX4_holdsByLog cX4_holdsByLog 2 (some .int) 1 := ⟨memW (by decide +kernel) (by decide +kernel), memW (by decide +kernel) (by decide +kernel), by decide, by decide, by decide +kernel⟩
theorem cy_X4_blocks : CallY yX4_blocks cX4_blocks 4 (some .int) 2 := ⟨memW (by decide +kernel) (by decide +kernel), memW (by decide +kernel) (by decide +kernel), by decide, by decide, by decide +kernel⟩
theorem cy_X4_holders : CallY yX4_holders cX4_holders 2 (some .int) 1 := ⟨memW (by decide +kernel) (by decide +kernel), memW (by decide +kernel) (by decide +kernel), by decide, by decide, by decide +kernel⟩
theorem cy_X4_shown : CallY yX4_shown cX4_shown 3 (some .int) 2 := ⟨memW (by decide +kernel) (by decide +kernel), memW (by decide +kernel) (by decide +kernel), by decide, by decide, by decide +kernel⟩
theorem cy_X5_arePeers : CallY yX5_arePeers cX5_arePeers 3 (some .boolean) 2 := ⟨memW (by decide +kernel) (by decide +kernel), memW (by decide +kernel) (by decide +kernel), by decide, by decide, by decide +kernel⟩
theorem cy_X4_chosen : CallY yX4_chosen cX4_chosen 2 (some .int) 1 := ⟨memW (by decide +kernel) (by decide +kernel), memW (by decide +kernel) (by decide +kernel), by decide, by decide, by decide +kernel⟩
theorem cy_X4_got : CallY yX4_got cX4_got 3 (some .int) 2 := ⟨memW (by decide +kernel) (by decide +kernel), memW (by decide +kernel) (by decide +kernel), by decide, by decide, by decide +kernel⟩
theorem cy_X4_doubles : CallY yX4_doubles cX4_doubles 2 (some .int) 1 := ⟨memW (by decide +kernel) (by decide +kernel), memW (by decide +kernel) (by decide +kernel), by decide, by decide, by decide +kernel⟩
theorem cy_X4_strikes : CallY yX4_strikes cX4_strikes 3 (some .int) 2 := ⟨memW (by decide +kernel) (by decide +kernel), memW (by decide +kernel) (by decide +kernel), by decide, by decide, by decide +kernel⟩
theorem cy_X4_isBanned : CallY yX4_isBanned cX4_isBanned 3 (some .boolean) 2 := ⟨memW (by decide +kernel) (by decide +kernel), memW (by decide +kernel) (by decide +kernel), by decide, by decide, by decide +kernel⟩
end
