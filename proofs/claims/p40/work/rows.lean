section
-- ===== PART A: goes FIRST, ahead of the names: the tables' words, and 'selects' of the private methods out of them =====
/-- a private method of a class that the tables say can be made, by its rows of tables_1 -/
def lw_okq (q : MethodName × Nat) : Prop := (q.1.cls ≠ "java/lang/invoke/MethodHandle" ∧ q.1.cls ≠ "java/lang/invoke/VarHandle") ∧ Cond.instantiable q.1.cls q.2 ∈ tables_1 ∧ Cond.privateMethod q.1 ∈ tables_1 ∧ Cond.instanceMethod q.1 ∈ tables_1
theorem lw_p0 : lw_okq (⟨"Raidline", "isEachInOnePlace", "()Z"⟩, 8) := ⟨⟨by decide +kernel, by decide +kernel⟩, List.mem_of_getElem? (i := 27) (by decide +kernel), List.mem_of_getElem? (i := 433) (by decide +kernel), List.mem_of_getElem? (i := 434) (by decide +kernel)⟩
theorem lw_p1 : lw_okq (⟨"Raidline", "isEachInOneSquad", "()Z"⟩, 8) := ⟨⟨by decide +kernel, by decide +kernel⟩, List.mem_of_getElem? (i := 27) (by decide +kernel), List.mem_of_getElem? (i := 450) (by decide +kernel), List.mem_of_getElem? (i := 451) (by decide +kernel)⟩
theorem lw_p2 : lw_okq (⟨"Raidline", "arePursesRight", "()Z"⟩, 8) := ⟨⟨by decide +kernel, by decide +kernel⟩, List.mem_of_getElem? (i := 27) (by decide +kernel), List.mem_of_getElem? (i := 459) (by decide +kernel), List.mem_of_getElem? (i := 460) (by decide +kernel)⟩
theorem lw_p3 : lw_okq (⟨"Raidline$Values", "lookAhead", "(IIIII)D"⟩, 8) := ⟨⟨by decide +kernel, by decide +kernel⟩, List.mem_of_getElem? (i := 349) (by decide +kernel), List.mem_of_getElem? (i := 471) (by decide +kernel), List.mem_of_getElem? (i := 472) (by decide +kernel)⟩
theorem lw_p4 : lw_okq (⟨"Raidline$Values", "keep", "(ID)V"⟩, 8) := ⟨⟨by decide +kernel, by decide +kernel⟩, List.mem_of_getElem? (i := 349) (by decide +kernel), List.mem_of_getElem? (i := 504) (by decide +kernel), List.mem_of_getElem? (i := 505) (by decide +kernel)⟩
theorem lw_p5 : lw_okq (⟨"Raidline$Values", "solveOneMore", "()V"⟩, 8) := ⟨⟨by decide +kernel, by decide +kernel⟩, List.mem_of_getElem? (i := 349) (by decide +kernel), List.mem_of_getElem? (i := 508) (by decide +kernel), List.mem_of_getElem? (i := 509) (by decide +kernel)⟩
theorem lw_p6 : lw_okq (⟨"Raidline$Values", "solvePair", "(II)V"⟩, 8) := ⟨⟨by decide +kernel, by decide +kernel⟩, List.mem_of_getElem? (i := 349) (by decide +kernel), List.mem_of_getElem? (i := 512) (by decide +kernel), List.mem_of_getElem? (i := 513) (by decide +kernel)⟩
theorem lw_p7 : lw_okq (⟨"java/lang/Throwable", "fillInStackTrace", "(I)Ljava/lang/Throwable;"⟩, 6) := ⟨⟨by decide +kernel, by decide +kernel⟩, List.mem_of_getElem? (i := 559) (by decide +kernel), List.mem_of_getElem? (i := 557) (by decide +kernel), List.mem_of_getElem? (i := 558) (by decide +kernel)⟩
theorem lw_p8 : lw_okq (⟨"Raidline", "needPlayer", "(I)V"⟩, 8) := ⟨⟨by decide +kernel, by decide +kernel⟩, List.mem_of_getElem? (i := 27) (by decide +kernel), List.mem_of_getElem? (i := 676) (by decide +kernel), List.mem_of_getElem? (i := 677) (by decide +kernel)⟩
theorem lw_p9 : lw_okq (⟨"Raidline", "needSquad", "(I)V"⟩, 8) := ⟨⟨by decide +kernel, by decide +kernel⟩, List.mem_of_getElem? (i := 27) (by decide +kernel), List.mem_of_getElem? (i := 722) (by decide +kernel), List.mem_of_getElem? (i := 723) (by decide +kernel)⟩
theorem lw_p10 : lw_okq (⟨"Raidline", "lowestBid", "()I"⟩, 8) := ⟨⟨by decide +kernel, by decide +kernel⟩, List.mem_of_getElem? (i := 27) (by decide +kernel), List.mem_of_getElem? (i := 726) (by decide +kernel), List.mem_of_getElem? (i := 727) (by decide +kernel)⟩
theorem lw_p11 : lw_okq (⟨"Raidline", "canTake", "(II)Z"⟩, 8) := ⟨⟨by decide +kernel, by decide +kernel⟩, List.mem_of_getElem? (i := 27) (by decide +kernel), List.mem_of_getElem? (i := 730) (by decide +kernel), List.mem_of_getElem? (i := 731) (by decide +kernel)⟩
theorem lw_p12 : lw_okq (⟨"Raidline", "mayMatch", "(I)Z"⟩, 8) := ⟨⟨by decide +kernel, by decide +kernel⟩, List.mem_of_getElem? (i := 27) (by decide +kernel), List.mem_of_getElem? (i := 742) (by decide +kernel), List.mem_of_getElem? (i := 743) (by decide +kernel)⟩
theorem lw_p13 : lw_okq (⟨"Raidline", "sell", "(III)V"⟩, 8) := ⟨⟨by decide +kernel, by decide +kernel⟩, List.mem_of_getElem? (i := 27) (by decide +kernel), List.mem_of_getElem? (i := 747) (by decide +kernel), List.mem_of_getElem? (i := 748) (by decide +kernel)⟩
theorem lw_p14 : lw_okq (⟨"Raidline$Match", "sideOfRaid", "(I)I"⟩, 9) := ⟨⟨by decide +kernel, by decide +kernel⟩, List.mem_of_getElem? (i := 160) (by decide +kernel), List.mem_of_getElem? (i := 837) (by decide +kernel), List.mem_of_getElem? (i := 838) (by decide +kernel)⟩
theorem lw_p15 : lw_okq (⟨"Raidline", "playingSide", "(I)LRaidline$Side;"⟩, 8) := ⟨⟨by decide +kernel, by decide +kernel⟩, List.mem_of_getElem? (i := 27) (by decide +kernel), List.mem_of_getElem? (i := 856) (by decide +kernel), List.mem_of_getElem? (i := 857) (by decide +kernel)⟩
def lw_privs_1 : List (MethodName × Nat) := [(⟨"Raidline", "isEachInOnePlace", "()Z"⟩, 8), (⟨"Raidline", "isEachInOneSquad", "()Z"⟩, 8), (⟨"Raidline", "arePursesRight", "()Z"⟩, 8), (⟨"Raidline$Values", "lookAhead", "(IIIII)D"⟩, 8), (⟨"Raidline$Values", "keep", "(ID)V"⟩, 8), (⟨"Raidline$Values", "solveOneMore", "()V"⟩, 8), (⟨"Raidline$Values", "solvePair", "(II)V"⟩, 8), (⟨"java/lang/Throwable", "fillInStackTrace", "(I)Ljava/lang/Throwable;"⟩, 6), (⟨"Raidline", "needPlayer", "(I)V"⟩, 8), (⟨"Raidline", "needSquad", "(I)V"⟩, 8), (⟨"Raidline", "lowestBid", "()I"⟩, 8), (⟨"Raidline", "canTake", "(II)Z"⟩, 8), (⟨"Raidline", "mayMatch", "(I)Z"⟩, 8), (⟨"Raidline", "sell", "(III)V"⟩, 8), (⟨"Raidline$Match", "sideOfRaid", "(I)I"⟩, 9), (⟨"Raidline", "playingSide", "(I)LRaidline$Side;"⟩, 8)]
theorem lw_r1 : ∀ q ∈ lw_privs_1, lw_okq q := List.forall_mem_cons.mpr ⟨lw_p0, List.forall_mem_cons.mpr ⟨lw_p1, List.forall_mem_cons.mpr ⟨lw_p2, List.forall_mem_cons.mpr ⟨lw_p3, List.forall_mem_cons.mpr ⟨lw_p4, List.forall_mem_cons.mpr ⟨lw_p5, List.forall_mem_cons.mpr ⟨lw_p6, List.forall_mem_cons.mpr ⟨lw_p7, List.forall_mem_cons.mpr ⟨lw_p8, List.forall_mem_cons.mpr ⟨lw_p9, List.forall_mem_cons.mpr ⟨lw_p10, List.forall_mem_cons.mpr ⟨lw_p11, List.forall_mem_cons.mpr ⟨lw_p12, List.forall_mem_cons.mpr ⟨lw_p13, List.forall_mem_cons.mpr ⟨lw_p14, List.forall_mem_cons.mpr ⟨lw_p15, fun _ h => absurd h List.not_mem_nil⟩⟩⟩⟩⟩⟩⟩⟩⟩⟩⟩⟩⟩⟩⟩⟩
theorem lw_p16 : lw_okq (⟨"Raidline", "needPause", "()V"⟩, 8) := ⟨⟨by decide +kernel, by decide +kernel⟩, List.mem_of_getElem? (i := 27) (by decide +kernel), List.mem_of_getElem? (i := 895) (by decide +kernel), List.mem_of_getElem? (i := 896) (by decide +kernel)⟩
theorem lw_p17 : lw_okq (⟨"Raidline", "needRaid", "()V"⟩, 8) := ⟨⟨by decide +kernel, by decide +kernel⟩, List.mem_of_getElem? (i := 27) (by decide +kernel), List.mem_of_getElem? (i := 914) (by decide +kernel), List.mem_of_getElem? (i := 915) (by decide +kernel)⟩
theorem lw_p18 : lw_okq (⟨"Raidline", "loseRaider", "()V"⟩, 8) := ⟨⟨by decide +kernel, by decide +kernel⟩, List.mem_of_getElem? (i := 27) (by decide +kernel), List.mem_of_getElem? (i := 927) (by decide +kernel), List.mem_of_getElem? (i := 928) (by decide +kernel)⟩
theorem lw_p19 : lw_okq (⟨"Raidline", "closeRaid", "(IIIZ)V"⟩, 8) := ⟨⟨by decide +kernel, by decide +kernel⟩, List.mem_of_getElem? (i := 27) (by decide +kernel), List.mem_of_getElem? (i := 947) (by decide +kernel), List.mem_of_getElem? (i := 948) (by decide +kernel)⟩
theorem lw_p20 : lw_okq (⟨"Raidline", "endSittings", "()V"⟩, 8) := ⟨⟨by decide +kernel, by decide +kernel⟩, List.mem_of_getElem? (i := 27) (by decide +kernel), List.mem_of_getElem? (i := 963) (by decide +kernel), List.mem_of_getElem? (i := 964) (by decide +kernel)⟩
theorem lw_p21 : lw_okq (⟨"Raidline", "allOut", "(LRaidline$Side;LRaidline$Side;)I"⟩, 8) := ⟨⟨by decide +kernel, by decide +kernel⟩, List.mem_of_getElem? (i := 27) (by decide +kernel), List.mem_of_getElem? (i := 972) (by decide +kernel), List.mem_of_getElem? (i := 973) (by decide +kernel)⟩
theorem lw_p22 : lw_okq (⟨"Raidline$Clubs", "enterResultOf", "(II)V"⟩, 5) := ⟨⟨by decide +kernel, by decide +kernel⟩, List.mem_of_getElem? (i := 86) (by decide +kernel), List.mem_of_getElem? (i := 989) (by decide +kernel), List.mem_of_getElem? (i := 990) (by decide +kernel)⟩
theorem lw_p23 : lw_okq (⟨"Raidline", "holdingStrength", "(ILRaidline$Line;)I"⟩, 8) := ⟨⟨by decide +kernel, by decide +kernel⟩, List.mem_of_getElem? (i := 27) (by decide +kernel), List.mem_of_getElem? (i := 1021) (by decide +kernel), List.mem_of_getElem? (i := 1022) (by decide +kernel)⟩
theorem lw_p24 : lw_okq (⟨"Raidline", "creditTacklers", "(ILRaidline$Line;)V"⟩, 8) := ⟨⟨by decide +kernel, by decide +kernel⟩, List.mem_of_getElem? (i := 27) (by decide +kernel), List.mem_of_getElem? (i := 1025) (by decide +kernel), List.mem_of_getElem? (i := 1026) (by decide +kernel)⟩
theorem lw_p25 : lw_okq (⟨"Raidline", "bringHome", "()V"⟩, 8) := ⟨⟨by decide +kernel, by decide +kernel⟩, List.mem_of_getElem? (i := 27) (by decide +kernel), List.mem_of_getElem? (i := 1042) (by decide +kernel), List.mem_of_getElem? (i := 1043) (by decide +kernel)⟩
theorem lw_p26 : lw_okq (⟨"Raidline", "takeTouched", "(LRaidline$Side;LRaidline$Side;)V"⟩, 8) := ⟨⟨by decide +kernel, by decide +kernel⟩, List.mem_of_getElem? (i := 27) (by decide +kernel), List.mem_of_getElem? (i := 1046) (by decide +kernel), List.mem_of_getElem? (i := 1047) (by decide +kernel)⟩
theorem lw_p27 : lw_okq (⟨"Raidline", "wouldEmptyMat", "(I)Z"⟩, 8) := ⟨⟨by decide +kernel, by decide +kernel⟩, List.mem_of_getElem? (i := 27) (by decide +kernel), List.mem_of_getElem? (i := 1087) (by decide +kernel), List.mem_of_getElem? (i := 1088) (by decide +kernel)⟩
theorem lw_p28 : lw_okq (⟨"Raidline", "putRight", "(I)V"⟩, 8) := ⟨⟨by decide +kernel, by decide +kernel⟩, List.mem_of_getElem? (i := 27) (by decide +kernel), List.mem_of_getElem? (i := 1104) (by decide +kernel), List.mem_of_getElem? (i := 1105) (by decide +kernel)⟩
theorem lw_p29 : lw_okq (⟨"Raidline$Clubs", "placeOf", "(I)I"⟩, 5) := ⟨⟨by decide +kernel, by decide +kernel⟩, List.mem_of_getElem? (i := 86) (by decide +kernel), List.mem_of_getElem? (i := 1129) (by decide +kernel), List.mem_of_getElem? (i := 1130) (by decide +kernel)⟩
theorem lw_p30 : lw_okq (⟨"Raidline$Clubs", "isBetter", "(II)Z"⟩, 5) := ⟨⟨by decide +kernel, by decide +kernel⟩, List.mem_of_getElem? (i := 86) (by decide +kernel), List.mem_of_getElem? (i := 1133) (by decide +kernel), List.mem_of_getElem? (i := 1134) (by decide +kernel)⟩
theorem lw_p31 : lw_okq (⟨"Raidline", "stronger", "(II)I"⟩, 8) := ⟨⟨by decide +kernel, by decide +kernel⟩, List.mem_of_getElem? (i := 27) (by decide +kernel), List.mem_of_getElem? (i := 1142) (by decide +kernel), List.mem_of_getElem? (i := 1143) (by decide +kernel)⟩
def lw_privs_2 : List (MethodName × Nat) := [(⟨"Raidline", "needPause", "()V"⟩, 8), (⟨"Raidline", "needRaid", "()V"⟩, 8), (⟨"Raidline", "loseRaider", "()V"⟩, 8), (⟨"Raidline", "closeRaid", "(IIIZ)V"⟩, 8), (⟨"Raidline", "endSittings", "()V"⟩, 8), (⟨"Raidline", "allOut", "(LRaidline$Side;LRaidline$Side;)I"⟩, 8), (⟨"Raidline$Clubs", "enterResultOf", "(II)V"⟩, 5), (⟨"Raidline", "holdingStrength", "(ILRaidline$Line;)I"⟩, 8), (⟨"Raidline", "creditTacklers", "(ILRaidline$Line;)V"⟩, 8), (⟨"Raidline", "bringHome", "()V"⟩, 8), (⟨"Raidline", "takeTouched", "(LRaidline$Side;LRaidline$Side;)V"⟩, 8), (⟨"Raidline", "wouldEmptyMat", "(I)Z"⟩, 8), (⟨"Raidline", "putRight", "(I)V"⟩, 8), (⟨"Raidline$Clubs", "placeOf", "(I)I"⟩, 5), (⟨"Raidline$Clubs", "isBetter", "(II)Z"⟩, 5), (⟨"Raidline", "stronger", "(II)I"⟩, 8)]
theorem lw_r2 : ∀ q ∈ lw_privs_2, lw_okq q := List.forall_mem_cons.mpr ⟨lw_p16, List.forall_mem_cons.mpr ⟨lw_p17, List.forall_mem_cons.mpr ⟨lw_p18, List.forall_mem_cons.mpr ⟨lw_p19, List.forall_mem_cons.mpr ⟨lw_p20, List.forall_mem_cons.mpr ⟨lw_p21, List.forall_mem_cons.mpr ⟨lw_p22, List.forall_mem_cons.mpr ⟨lw_p23, List.forall_mem_cons.mpr ⟨lw_p24, List.forall_mem_cons.mpr ⟨lw_p25, List.forall_mem_cons.mpr ⟨lw_p26, List.forall_mem_cons.mpr ⟨lw_p27, List.forall_mem_cons.mpr ⟨lw_p28, List.forall_mem_cons.mpr ⟨lw_p29, List.forall_mem_cons.mpr ⟨lw_p30, List.forall_mem_cons.mpr ⟨lw_p31, fun _ h => absurd h List.not_mem_nil⟩⟩⟩⟩⟩⟩⟩⟩⟩⟩⟩⟩⟩⟩⟩⟩
def lw_privs : List (MethodName × Nat) := lw_privs_1 ++ (lw_privs_2)
def lw_tbl : List Cond := k2_sels lw_privs ++ tables_1
theorem lw_privs_ok : ∀ q ∈ lw_privs, lw_okq q := by
  show ∀ q ∈ lw_privs_1 ++ (lw_privs_2), lw_okq q
  exact List.forall_mem_append.mpr ⟨lw_r1, lw_r2⟩
/-- the streams that the claim lets the run draw from -/
abbrev lw_cs : List Choice := [Jvm.Choice.named "NaN.bits"]
theorem lw_bits : nanBits ∈ lw_cs := by first | decide | exact List.mem_cons_self | simp [lw_cs, nanBits]
-- ===== end of PART A; then your names; then what follows =====
/-! ===== BEGIN words of one list among another's, by their places ===== -/
theorem goodIn_r {big : List Cond} (ws : List Cond) (ps : List Nat) (hp : ws = ps.filterMap (fun i => big[i]?)) (h : ws.all goodWord = true) : GoodIn big ws := by
  intro w hw
  have h1 := List.all_eq_true.mp h w hw
  rw [hp] at hw
  obtain ⟨i, -, hi⟩ := List.mem_filterMap.mp hw
  have hm : w ∈ big := by first | exact List.mem_of_getElem? hi | exact List.getElem?_mem hi
  exact ⟨hm, good_of_word h1⟩
theorem goodIn_app {big a b : List Cond} (ha : GoodIn big a) (hb : GoodIn big b) : GoodIn big (a ++ b) := fun w h => (List.mem_append.mp h).elim (ha w) (hb w)
theorem goodIn_ca {big a b : List Cond} {c : Cond} (ha : GoodIn big (c :: a)) (hb : GoodIn big b) : GoodIn big (c :: (a ++ b)) := fun w h => (List.mem_cons.mp h).elim (fun e => ha w (List.mem_cons.mpr (Or.inl e))) (fun h => (List.mem_append.mp h).elim (fun h => ha w (List.mem_cons.mpr (Or.inr h))) (hb w))
theorem goodIn_sub {big ws : List Cond} (hm : ∀ w ∈ ws, w ∈ big) (h : ws.all goodWord = true) : GoodIn big ws := fun w hw => ⟨hm w hw, good_of_word (List.all_eq_true.mp h w hw)⟩
/-! ===== END ===== -/
/-! ===== BEGIN exceptions that leave a method, and their catching by the caller (launches without stack traces) ===== -/
section VXA
/-! The laws vx_back, vx_callV, vx_callS, vx_callSW, vx_throw0, vx_throwS follow proofs of the library, with one case more: JvmDerived/Free/Laws.lean (Back.of_free), Shelf42/LK1.lean (callV, callS), Shelf/KitTraced.lean (throwNew0V, throwNewS). -/
/-- where a method has thrown q: the class by its name, the cell, what was written, the world -/
def vx_T (XC : String → State → State → Prop) (st : State) (q : Addr) (t : State) (mc ms : Nat) (free : Addr → Prop) : Prop :=
  ∃ (E : String) (ce : Cell) (L : List Loc), XC E st t ∧ t.heap[q]? = some ce ∧ ce.vm = .none ∧ st.vm.findClass E = some ce.cls ∧ st.WarmedH t.vm ∧ st.sameButNew ({ t with vm := st.vm } : State) L mc ms ∧ ∀ z ∈ L, free z.base
def vx_Q (Qc : Array Value → State → Outcome → State → Prop) (XC : String → State → State → Prop) (mc ms : Nat) (free : Addr → Prop) : Array Value → State → Outcome → State → Prop := fun a st o t =>
  (Qc a st o t ∧ ∃ L, FrameEnd st o t L mc ms ∧ ∀ q ∈ L, free q.base) ∨ ∃ q, o = .threw q ∧ vx_T XC st q t mc ms free
/-- a callee that returns or throws -/
def vx_Met (l : Launch) (y : MethodName) (ws : List Cond) (rm : Room) (Pc : Array Value → State → Prop) (Qc : Array Value → State → Outcome → State → Prop) (XC : String → State → State → Prop) (mc ms : Nat) (free : Addr → Prop) : Prop :=
  MetFree l y (headSpec ws rm) Pc (fun _ _ _ _ _ => True) (vx_Q Qc XC mc ms free)
def vx_Post (XC : String → State → State → Prop) (mc ms : Nat) (free : Addr → Prop) : Pt → Array Value → Addr → Pt → Prop := fun A a q B =>
  ∃ (g : JFrame) (mk : MethodId) (t : State) (L : List Loc) (E : String) (ce : Cell), B.U.heap = t.heap ∧ B.U.vm = t.vm ∧ XC E (A.U.calling g mk a) t ∧ t.heap[q]? = some ce ∧ ce.vm = .none ∧ A.U.vm.findClass E = some ce.cls ∧ B.locs = A.locs ++ L ∧ (∀ z ∈ L, free z.base) ∧ B.cells = A.cells + mc ∧ B.slots = A.slots + ms
def vx_Back (l : Launch) (R : Room) (p : Program) (e : Env) (below : List Frame) (s : State) (sargs : Array Value) (y : MethodName) (len W9 : Nat)
    (Pre : Pt → Array Value → Prop) (Post : Pt → Array Value → Option Value → Pt → Prop) (PostX : Pt → Array Value → Addr → Pt → Prop) : Prop :=
  ∀ (m : MethodId) (meth : Method) (c : Code) (A : Pt) (g : JFrame) (ig : Instr) (mk : MethodId) (a : Array Value),
    Stand p l e R s m sargs below meth c A.U A.locs A.cells A.slots → g.method = m → g.locals.size = c.maxLocals → decode c.code g.pc = .ok (ig, len) →
    2 * g.monitorRoom + (g.stack.map fun v => v.category).sum ≤ W9 → A.U.methodNamed? y = some mk → Pre A a →
    (∃ (v : Option Value) (B : Pt), Stand p l e R s m sargs below meth c B.U B.locs B.cells B.slots ∧ Post A a v B ∧
      Steps p.tables e below (doInvoke e (A.U.setTop g) [] mk a).1 (B.U.setTop { g with pc := g.pc + len, stack := v.toList ++ g.stack })) ∨
    (∃ (q : Addr) (B : Pt), Stand p l e R s m sargs below meth c B.U B.locs B.cells B.slots ∧ PostX A a q B ∧
      Steps p.tables e below (doInvoke e (A.U.setTop g) [] mk a).1 ((B.U.setTop g).pushFrame (.throwing q)))
section Payer
variable {l : Launch} {R : Room} {p : Program} {e : Env} {below : List Frame} {s : State} {sargs : Array Value} {y : MethodName} {len W9 : Nat}
theorem vx_back {ws : List Cond} {rm : Room} {Pc : Array Value → State → Prop} {Qc : Array Value → State → Outcome → State → Prop} {XC : String → State → State → Prop} {mc ms : Nat} {free : Addr → Prop} {bytes : ByteArray} {maxL : Nat} {ret : Option FieldType}
    (hM : vx_Met l y ws rm Pc Qc XC mc ms free) (hblind : FrameBlind Pc) (hrc : rm.cells = mc) (hrs : rm.slots = ms)
    (hframes : rm.frames + 1 ≤ R.frames) (hlocals : W9 + (maxL + 11) + rm.locals ≤ R.locals)
    (hws : ∀ w ∈ ws, ∀ a' U, s.WarmedH U.vm → w.before a' U = true) (hcode : Cond.code y bytes maxL ret ∈ ws) (hinit : ∀ a' U, s.WarmedH U.vm → (Cond.initialized y.cls).before a' U = true) :
    vx_Back l R p e below s sargs y len W9 (PreOf R mc ms Pc) (PostOf Qc mc ms free) (vx_Post XC mc ms free) := by
  intro m meth c A g ig mk a X hg hsize hdg hW hn hp
  have h1 : (headSpec ws rm).pre.before a A.U = true := atoms_intro fun w hw => hws w hw _ _ X.warmed
  have h2 : (Cond.code y bytes maxL ret).before a A.U = true := hws _ hcode _ _ X.warmed
  have h3 : (Cond.initialized y.cls).before a A.U = true := hinit _ _ X.warmed
  have h4 : A.cells + (headSpec ws rm).room.cells ≤ R.cells := by rw [show (headSpec ws rm).room.cells = mc from hrc]; exact hp.1
  have h5 : A.slots + (headSpec ws rm).room.slots ≤ R.slots := by rw [show (headSpec ws rm).room.slots = ms from hrs]; exact hp.2.1
  have hPc : Pc a (A.U.calling g mk a) := hblind _ _ _ _ hp.2.2
  obtain ⟨U, Ls, c0, s0⟩ := A
  dsimp only [Pt.U, Pt.locs, Pt.cells, Pt.slots] at h1 h2 h3 h4 h5 X hn hPc ⊢
  obtain ⟨methY, cY, hmY, hcY, -, hlY, -, -, -, -⟩ := Cond.code_spec hn h2
  obtain ⟨kY, hkY, -⟩ := className_of_methodNamed hn
  have hinitY : kY.init = .initialized := Cond.initialized_spec (findClass_of_methodNamed hn) hkY h3
  have h : At U g.method c below := by rw [hg]; exact X.here
  have hlocals9 : W9 + (maxL + 11) + (headSpec ws rm).room.locals ≤ R.locals := hlocals
  have happ : (headSpec ws rm).appliesLoose y e.platform (U.calling g mk a) = true :=
    Spec.appliesLoose_calling (g := g) h hdg hn hkY hinitY
      (X.room_calling (g := g) (R' := (headSpec ws rm).room) hsize hmY hcY hframes (by rw [hlY]; omega) h4 h5) h1
  obtain ⟨mid, hmid⟩ := h.above
  have hfr : (U.setTop g).frames = (.java g :: mid) ++ below := by rw [State.frames_setTop' g h.top, hmid]; rfl
  obtain ⟨o, s₂, hsteps, -, hend, hq⟩ := Steps.callFree hM p X.admits X.cas X.clock (acts := []) hfr happ hPc trivial
  have hq' : vx_Q Qc XC mc ms free a (U.calling g mk a) o s₂ := hq
  rw [State.frames_setTop' g h.top] at hend
  obtain ⟨g₀, hg0⟩ := Option.isSome_iff_exists.mp h.top
  obtain ⟨r, hr⟩ := State.topJava?_eq_some.mp hg0
  have hr' : (({ U with heap := s₂.heap, slotsUsed := s₂.slotsUsed } : State).setVm s₂.vm).frames = .java g₀ :: r := hr
  rcases hq' with ⟨hqc, L, hfe, hL⟩ | ⟨q, rfl, E, ce, L, hx, hce, hcv, hcl, hW₂, hsm, hL⟩
  · obtain ⟨⟨v, rfl⟩, hW₂, e2, q2, q3, q4, q5, q6⟩ := id hfe
    have e3 : s₂ = ({ (U.calling g mk a).setFrames s₂.frames with heap := s₂.heap, slotsUsed := s₂.slotsUsed } : State).setVm s₂.vm := by
      have : s₂ = ({ s₂ with vm := (U.calling g mk a).vm } : State).setVm s₂.vm := rfl
      rw [e2] at this
      exact this
    obtain ⟨c₂, i₂, len₂, hc₂, hd₂, hf₂⟩ := hend
    have hW' : U.WarmedH s₂.vm := hW₂
    have hcc : c₂ = c := by
      have h1 : s₂.code? g.method = U.code? g.method := by
        rw [State.code?_eq, State.code?_eq, hW'.alike.method?]
      exact Option.some.inj (hc₂.symm.trans (h1.trans h.code))
    subst hcc
    have hlen : len₂ = len := by rw [hdg] at hd₂; cases hd₂; rfl
    subst hlen
    have hs₂ : s₂ = (({ U with heap := s₂.heap, slotsUsed := s₂.slotsUsed } : State).setVm s₂.vm).setTop { g with pc := g.pc + len₂, stack := v.toList ++ g.stack } := by
      refine e3.trans ?_
      rw [hf₂, State.calling_eq h.top, State.setFrames_setFrames, State.setTop_of_frames _ hr', hr]
      rfl
    have hsame : U.sameButNew ({ U with heap := s₂.heap, slotsUsed := s₂.slotsUsed } : State) L mc ms := by
      refine ⟨?_, q2, q3, q4, q5, q6⟩
      obtain ⟨t, ht, -⟩ := State.frames_cons hr
      show ({ U with heap := s₂.heap, slotsUsed := s₂.slotsUsed } : State) = { U.setFrames U.frames with heap := s₂.heap, slotsUsed := s₂.slotsUsed }
      rw [State.setFrames_self ht]
    subst hg
    refine Or.inl ⟨v, ⟨(({ U with heap := s₂.heap, slotsUsed := s₂.slotsUsed } : State).setVm s₂.vm), Ls ++ L, c0 + mc, s0 + ms⟩,
      ⟨X.admits, X.cas, X.clock, X.frames, X.room, X.hears, X.method, X.code, (X.here.setHeapUsed s₂.heap s₂.slotsUsed).setVm hW'.alike, X.tail, State.WarmedH.trans X.warmed hW', X.limits, X.bytes, X.same.trans (hsame.setVm s.vm)⟩,
      ⟨g, mk, s₂, L, rfl, rfl, hqc, rfl, hL, rfl, rfl⟩, ?_⟩
    show Steps p.tables e below _ ((({ U with heap := s₂.heap, slotsUsed := s₂.slotsUsed } : State).setVm s₂.vm).setTop { g with pc := g.pc + len₂, stack := v.toList ++ g.stack })
    rw [← hs₂]
    exact hsteps
  · obtain ⟨e2, q2, q3, q4, q5, q6⟩ := id hsm
    have e3 : s₂ = ({ (U.calling g mk a).setFrames s₂.frames with heap := s₂.heap, slotsUsed := s₂.slotsUsed } : State).setVm s₂.vm := by
      have : s₂ = ({ s₂ with vm := (U.calling g mk a).vm } : State).setVm s₂.vm := rfl
      rw [e2] at this
      exact this
    have hf₂ : s₂.frames = .throwing q :: .java g :: U.frames.tail := hend
    have hW' : U.WarmedH s₂.vm := hW₂
    have hs₂ : s₂ = ((({ U with heap := s₂.heap, slotsUsed := s₂.slotsUsed } : State).setVm s₂.vm).setTop g).pushFrame (.throwing q) := by
      refine e3.trans ?_
      rw [hf₂, State.calling_eq h.top, State.setFrames_setFrames, State.pushFrame, State.frames_setTop _ hr', State.setTop_of_frames _ hr', State.setFrames_setFrames, hr]
      rfl
    have hsame : U.sameButNew ({ U with heap := s₂.heap, slotsUsed := s₂.slotsUsed } : State) L mc ms := by
      refine ⟨?_, q2, q3, q4, q5, q6⟩
      obtain ⟨t, ht, -⟩ := State.frames_cons hr
      show ({ U with heap := s₂.heap, slotsUsed := s₂.slotsUsed } : State) = { U.setFrames U.frames with heap := s₂.heap, slotsUsed := s₂.slotsUsed }
      rw [State.setFrames_self ht]
    subst hg
    refine Or.inr ⟨q, ⟨(({ U with heap := s₂.heap, slotsUsed := s₂.slotsUsed } : State).setVm s₂.vm), Ls ++ L, c0 + mc, s0 + ms⟩,
      ⟨X.admits, X.cas, X.clock, X.frames, X.room, X.hears, X.method, X.code, (X.here.setHeapUsed s₂.heap s₂.slotsUsed).setVm hW'.alike, X.tail, State.WarmedH.trans X.warmed hW', X.limits, X.bytes, X.same.trans (hsame.setVm s.vm)⟩,
      ⟨g, mk, s₂, L, E, ce, rfl, rfl, hx, hce, hcv, hcl, rfl, hL, rfl, rfl⟩, ?_⟩
    show Steps p.tables e below _ (((({ U with heap := s₂.heap, slotsUsed := s₂.slotsUsed } : State).setVm s₂.vm).setTop g).pushFrame (.throwing q))
    rw [← hs₂]
    exact hsteps
end Payer
section Calls
variable {p : Program} {l : Launch} {e : Env} {R : Room} {s : State} {m : MethodId} {args : Array Value} {below : List Frame} {meth : Method} {c : Code} {T : State} {locs : List Loc} {cells slots : Nat}
theorem vx_callV (X : Stand p l e R s m args below meth c T locs cells slots) (hexec : p.tables.exec = Jvm.exec) {own C : String} {index : Nat} {y : MethodName} {bytes : ByteArray} {maxL : Nat} {ret : Option FieldType}
    (hown : s.vm.findClass own = some m.cls) (hlink : (Cond.methodLink own index y).before args s = true) (hinst : (Cond.instanceMethod y).before args s = true) (hsel : (Cond.selects C y y).before args s = true)
    (hcode : (Cond.code y bytes maxL ret).before args s = true) (hy : y.cls ≠ "java/lang/invoke/MethodHandle" ∧ y.cls ≠ "java/lang/invoke/VarHandle")
    {W9 : Nat} {Pre : Pt → Array Value → Prop} {Post : Pt → Array Value → Option Value → Pt → Prop} {PostX : Pt → Array Value → Addr → Pt → Prop} (hK : vx_Back l R p e below s args y 3 W9 Pre Post PostX)
    {b : Addr} {cellB : Cell} (hcell : T.heap[b]? = some cellB) (hobj : cellB.vm.isStatics = false) (hcls : s.vm.findClass C = some cellB.cls)
    {g : JFrame} (hg : g.method = m) (hsize : g.locals.size = c.maxLocals) {argsL rest : List Value} (hlen : ∀ sig, parseMethodDescriptor y.desc = some sig → argsL.length = sig.parameters.length)
    (hstack : g.stack = argsL.reverse ++ .ref b :: rest) (hW : 2 * g.monitorRoom + (rest.map fun v => v.category).sum ≤ W9) (hdg : decode c.code g.pc = .ok (.invokevirtual index, 3))
    (hpre : ∀ vm₁, s.WarmedH vm₁ → Pre ⟨T.setVm vm₁, locs, cells, slots⟩ (Value.ref b :: argsL).toArray) :
    (∃ (v : Option Value) (vm₁ : Vm) (B : Pt), s.WarmedH vm₁ ∧ Stand p l e R s m args below meth c B.U B.locs B.cells B.slots ∧ Post ⟨T.setVm vm₁, locs, cells, slots⟩ (Value.ref b :: argsL).toArray v B ∧
      ∀ target, Steps p.tables e below (B.U.setTop { g with pc := g.pc + 3, stack := v.toList ++ rest }) target → Steps p.tables e below (T.setTop g) target) ∨
    (∃ (q : Addr) (vm₁ : Vm) (B : Pt), s.WarmedH vm₁ ∧ Stand p l e R s m args below meth c B.U B.locs B.cells B.slots ∧ PostX ⟨T.setVm vm₁, locs, cells, slots⟩ (Value.ref b :: argsL).toArray q B ∧
      Steps p.tables e below (T.setTop g) ((B.U.setTop { g with stack := rest }).pushFrame (.throwing q))) := by
  obtain ⟨mk, methM, hnamed, hmethM, hstM, habM⟩ := Cond.instanceMethod_spec hinst
  obtain ⟨methM', cM, hmethM', -, -, -, -, -, -, hsigM⟩ := Cond.code_spec hnamed hcode
  cases hmethM.symm.trans hmethM'
  obtain ⟨c2, r2, m2, q1, q2, q3, q4, kP, hkP, hkPi⟩ := Cond.selects_spec hsel
  cases hcls.symm.trans q1
  cases (State.methodFound?_of_named hnamed hy).symm.trans q2
  cases hnamed.symm.trans q3
  have hselP : selectMethod e.platform s.vm cellB.cls mk = .method mk := by rw [Launch.admits_selectMethod X.admits]; exact q4
  obtain ⟨vm₁, X₁, hstep₁⟩ := X.invokevirtual hexec hown hlink hnamed hmethM hstM hkP hkPi hy (a := b) (cell := cellB) hcell
    (fun z h => by rw [h] at hobj; cases hobj) hselP hmethM habM hkP hkPi (g := g) hg (argsL := argsL) (rest := rest) (hlen _ hsigM) hstack hdg
  rcases hK m meth c ⟨T.setVm vm₁, locs, cells, slots⟩ { g with stack := rest } (.invokevirtual index) mk (Value.ref b :: argsL).toArray X₁ hg hsize hdg hW (X₁.named hnamed) (hpre vm₁ X₁.warmed) with ⟨v, B, X', hpost, hsteps⟩ | ⟨q, B, X', hpost, hsteps⟩
  · exact Or.inl ⟨v, vm₁, B, X₁.warmed, X', hpost, fun target h => hstep₁ _ fun acts => by rw [doInvoke_state]; exact hsteps.trans h⟩
  · exact Or.inr ⟨q, vm₁, B, X₁.warmed, X', hpost, hstep₁ _ fun acts => by rw [doInvoke_state]; exact hsteps⟩
theorem vx_callS (X : Stand p l e R s m args below meth c T locs cells slots) (hexec : p.tables.exec = Jvm.exec) {own : String} {index : Nat} {y : MethodName} {bytes : ByteArray} {maxL : Nat} {ret : Option FieldType}
    (hown : s.vm.findClass own = some m.cls) (hlink : (Cond.methodLink own index y).before args s = true) (hstat : (Cond.static y).before args s = true) (hinit : (Cond.initialized y.cls).before args s = true)
    (hcode : (Cond.code y bytes maxL ret).before args s = true) (hy : y.cls ≠ "java/lang/invoke/MethodHandle" ∧ y.cls ≠ "java/lang/invoke/VarHandle")
    {W9 : Nat} {Pre : Pt → Array Value → Prop} {Post : Pt → Array Value → Option Value → Pt → Prop} {PostX : Pt → Array Value → Addr → Pt → Prop} (hK : vx_Back l R p e below s args y 3 W9 Pre Post PostX)
    {g : JFrame} (hg : g.method = m) (hsize : g.locals.size = c.maxLocals) {argsL rest : List Value} (hlen : ∀ sig, parseMethodDescriptor y.desc = some sig → argsL.length = sig.parameters.length)
    (hstack : g.stack = argsL.reverse ++ rest) (hW : 2 * g.monitorRoom + (rest.map fun v => v.category).sum ≤ W9) (hdg : decode c.code g.pc = .ok (.invokestatic index, 3))
    (hpre : ∀ vm₁, s.WarmedH vm₁ → Pre ⟨T.setVm vm₁, locs, cells, slots⟩ argsL.toArray) :
    (∃ (v : Option Value) (vm₁ : Vm) (B : Pt), s.WarmedH vm₁ ∧ Stand p l e R s m args below meth c B.U B.locs B.cells B.slots ∧ Post ⟨T.setVm vm₁, locs, cells, slots⟩ argsL.toArray v B ∧
      ∀ target, Steps p.tables e below (B.U.setTop { g with pc := g.pc + 3, stack := v.toList ++ rest }) target → Steps p.tables e below (T.setTop g) target) ∨
    (∃ (q : Addr) (vm₁ : Vm) (B : Pt), s.WarmedH vm₁ ∧ Stand p l e R s m args below meth c B.U B.locs B.cells B.slots ∧ PostX ⟨T.setVm vm₁, locs, cells, slots⟩ argsL.toArray q B ∧
      Steps p.tables e below (T.setTop g) ((B.U.setTop { g with stack := rest }).pushFrame (.throwing q))) := by
  obtain ⟨mk, hnamed⟩ := Cond.code_named hcode
  obtain ⟨methM, cM, hmethM, -, -, -, -, -, -, hsigM⟩ := Cond.code_spec hnamed hcode
  have hstatic : methM.isStatic = true := Cond.static_spec hnamed hmethM hstat
  obtain ⟨kP, hkP, -⟩ := className_of_methodNamed hnamed
  have hinitP : kP.init = .initialized := Cond.initialized_spec (findClass_of_methodNamed hnamed) hkP hinit
  obtain ⟨vm₁, X₁, hstep₁⟩ := X.invokestatic hexec hown hlink hnamed hmethM hstatic hkP hinitP hy (g := g) hg (argsL := argsL) (rest := rest) (hlen _ hsigM) hstack hdg
  rcases hK m meth c ⟨T.setVm vm₁, locs, cells, slots⟩ { g with stack := rest } (.invokestatic index) mk argsL.toArray X₁ hg hsize hdg hW (X₁.named hnamed) (hpre vm₁ X₁.warmed) with ⟨v, B, X', hpost, hsteps⟩ | ⟨q, B, X', hpost, hsteps⟩
  · exact Or.inl ⟨v, vm₁, B, X₁.warmed, X', hpost, fun target h => hstep₁ _ fun acts => by rw [doInvoke_state]; exact hsteps.trans h⟩
  · exact Or.inr ⟨q, vm₁, B, X₁.warmed, X', hpost, hstep₁ _ fun acts => by rw [doInvoke_state]; exact hsteps⟩
end Calls
theorem vx_cls {s : State} {T : State} {vm₁ : Vm} {E : String} {k : ClassId} (hW : s.WarmedH vm₁) (h : (T.setVm vm₁).vm.findClass E = some k) : s.vm.findClass E = some k := by
  have h1 : vm₁.findClass E = some k := h
  rw [hW.alike.findClass] at h1
  exact h1
/-- the method's frame g, with q thrown over it -/
def vx_W (p : Program) (l : Launch) (e : Env) (R : Room) (s : State) (m : MethodId) (args : Array Value) (below : List Frame) (meth : Method) (c : Code) (H : Heap) (locs : List Loc) (cells slots : Nat) (Q : State → Prop) (g : JFrame) (q : Addr) : Prop :=
  ∀ T : State, T.heap = H → Stand p l e R s m args below meth c T locs cells slots → ∃ t, Steps p.tables e below ((T.setTop g).pushFrame (.throwing q)) t ∧ Q t
def vx_Run (p : Program) (l : Launch) (e : Env) (R : Room) (s : State) (m : MethodId) (args : Array Value) (below : List Frame) (meth : Method) (c : Code) (H : Heap) (locs : List Loc) (cells slots mc ms : Nat) (g : JFrame) (rest : List Value) (Qa : State → Outcome → State → Prop) (XC : String → State → State → Prop) (free : Addr → Prop) : Prop :=
  ∀ T : State, T.heap = H → Stand p l e R s m args below meth c T locs cells slots →
    (∃ (v : Option Value) (st₀ t T' : State) (L : List Loc), st₀.heap = H ∧ Stand p l e R s m args below meth c T' (locs ++ L) (cells + mc) (slots + ms) ∧ (∀ q ∈ L, free q.base) ∧ T'.heap = t.heap ∧ T'.vm = t.vm ∧ Qa st₀ (.returned v) t ∧
      Goes p e below T g T' { g with pc := g.pc + 3, stack := v.toList ++ rest }) ∨
    (∃ (q : Addr) (st₀ t T' : State) (L : List Loc) (E : String) (ce : Cell), st₀.heap = H ∧ Stand p l e R s m args below meth c T' (locs ++ L) (cells + mc) (slots + ms) ∧ (∀ z ∈ L, free z.base) ∧ T'.heap = t.heap ∧ T'.vm = t.vm ∧ XC E st₀ t ∧ t.heap[q]? = some ce ∧ ce.vm = .none ∧ s.vm.findClass E = some ce.cls ∧
      Steps p.tables e below (T.setTop g) ((T'.setTop { g with stack := rest }).pushFrame (.throwing q)))
def vx_X {S : Type} (px : S → Prop) (B : String → S → State → Prop) (A : Nat → Prop) : String → State → State → Prop := fun E st t => ∃ u : S, px u ∧ B E u t ∧ va_F A st t
section Runs
variable {p : Program} {l : Launch} {e : Env} {R : Room} {s : State} {m : MethodId} {args : Array Value} {below : List Frame} {meth : Method} {c : Code} {H : Heap} {locs : List Loc} {cells slots : Nat}
variable {y : MethodName} {bytes cc : ByteArray} {maxL nL mc ms n index : Nat} {ret : Option FieldType} {ws : List Cond} {rm : Room} {Pc : Array Value → State → Prop} {Qc : Array Value → State → Outcome → State → Prop} {XC : String → State → State → Prop} {free : Addr → Prop} {Ts : List Cond} {own C : String} {b : Addr} {As rest : List Value} {g : JFrame}
theorem vx_callBack (cb : CallB R s args own index y bytes maxL ret ws rm mc ms n) (hM : vx_Met l y ws rm Pc Qc XC mc ms free) (hbl : FrameBlind Pc) : vx_Back l R p e below s args y 3 8 (PreOf R mc ms Pc) (PostOf Qc mc ms free) (vx_Post XC mc ms free) := by
  obtain ⟨hrc, hrs, hfr, hlo, hws, hcw, -, hini, -⟩ := cb
  exact vx_back (bytes := bytes) (maxL := maxL) (ret := ret) hM hbl hrc hrs hfr hlo hws hcw (fun a' U hW => word_at hW (Or.inl (by first | rfl | simp [Cond.onTables, Cond.keeps, Cond.steady])) hini)
theorem vx_runV (S : CallFix p m c cc nL s args Ts own) (hM : vx_Met l y ws rm Pc Qc XC mc ms free) (cw : CallW R s args own C index y bytes maxL ret ws rm mc ms n) (hp : PreV s H C b Pc As)
    (hg : g.method = m) (hn : As.length = n) (hsize : g.locals.size = nL) (hstack : g.stack = As.reverse ++ .ref b :: rest) (hW : 2 * g.monitorRoom + (rest.map fun v => v.category).sum ≤ 8) (hdg : decode cc g.pc = .ok (.invokevirtual index, 3)) (hf : cells + mc ≤ R.cells ∧ slots + ms ≤ R.slots) :
    vx_Run p l e R s m args below meth c H locs cells slots mc ms g rest (Qc (Value.ref b :: As).toArray) XC free := by
  have hK : vx_Back l R p e below s args y 3 8 (PreOf R mc ms Pc) (PostOf Qc mc ms free) (vx_Post XC mc ms free) := vx_callBack cw.1 hM hp.1
  obtain ⟨⟨-, -, -, -, -, -, hcode, -, hy, hlen, hl⟩, hin, hse⟩ := cw
  obtain ⟨hx, hb, hml, ho, -⟩ := S
  obtain ⟨-, ⟨cellB, hcB, hoB, hclB⟩, hPc⟩ := hp
  intro T hT X
  rcases vx_callV X hx (C := C) (bytes := bytes) (maxL := maxL) (ret := ret) ho hl hin hse hcode hy hK (by rw [hT]; exact hcB) hoB hclB hg (hsize.trans hml.symm) (argsL := As) (rest := rest) (fun sig h => hn.trans (hlen sig h)) hstack hW (by rw [hb]; exact hdg)
    (fun vm₁ hW₁ => ⟨hf.1, hf.2, hPc (T.setVm vm₁) hT hW₁⟩) with ⟨v, vm₁, ⟨U', l2, c2, s2⟩, hW₁, X', ⟨g', mk, t, L, e1, e2, hq, h1, hL, h2, h3⟩, st⟩ | ⟨q, vm₁, ⟨U', l2, c2, s2⟩, hW₁, X', ⟨g', mk, t, L, E, ce, e1, e2, hq, hce, hcv, hcl, h1, hL, h2, h3⟩, st⟩
  · dsimp only [Pt.U, Pt.locs, Pt.cells, Pt.slots] at X' e1 e2 h1 h2 h3 st
    subst h1; subst h2; subst h3
    exact Or.inl ⟨v, (T.setVm vm₁).calling g' mk (Value.ref b :: As).toArray, t, U', L, hT, X', hL, e1, e2, hq, st⟩
  · dsimp only [Pt.U, Pt.locs, Pt.cells, Pt.slots] at X' e1 e2 h1 h2 h3 st hcl
    subst h1; subst h2; subst h3
    exact Or.inr ⟨q, (T.setVm vm₁).calling g' mk (Value.ref b :: As).toArray, t, U', L, E, ce, hT, X', hL, e1, e2, hq, hce, hcv, vx_cls hW₁ hcl, st⟩
theorem vx_runS (S : CallFix p m c cc nL s args Ts own) (hM : vx_Met l y ws rm Pc Qc XC mc ms free) (cw : CallB R s args own index y bytes maxL ret ws rm mc ms n ∧ (Cond.static y).before args s = true) (hp : PreS s H Pc As)
    (hg : g.method = m) (hn : As.length = n) (hsize : g.locals.size = nL) (hstack : g.stack = As.reverse ++ rest) (hW : 2 * g.monitorRoom + (rest.map fun v => v.category).sum ≤ 8) (hdg : decode cc g.pc = .ok (.invokestatic index, 3)) (hf : cells + mc ≤ R.cells ∧ slots + ms ≤ R.slots) :
    vx_Run p l e R s m args below meth c H locs cells slots mc ms g rest (Qc As.toArray) XC free := by
  have hK : vx_Back l R p e below s args y 3 8 (PreOf R mc ms Pc) (PostOf Qc mc ms free) (vx_Post XC mc ms free) := vx_callBack cw.1 hM hp.1
  obtain ⟨⟨-, -, -, -, -, -, hcode, hini, hy, hlen, hl⟩, hstt⟩ := cw
  obtain ⟨hx, hb, hml, ho, -⟩ := S
  intro T hT X
  rcases vx_callS X hx (bytes := bytes) (maxL := maxL) (ret := ret) ho hl hstt hini hcode hy hK hg (hsize.trans hml.symm) (argsL := As) (rest := rest) (fun sig h => hn.trans (hlen sig h)) hstack hW (by rw [hb]; exact hdg)
    (fun vm₁ hW₁ => ⟨hf.1, hf.2, hp.2 (T.setVm vm₁) hT hW₁⟩) with ⟨v, vm₁, ⟨U', l2, c2, s2⟩, hW₁, X', ⟨g', mk, t, L, e1, e2, hq, h1, hL, h2, h3⟩, st⟩ | ⟨q, vm₁, ⟨U', l2, c2, s2⟩, hW₁, X', ⟨g', mk, t, L, E, ce, e1, e2, hq, hce, hcv, hcl, h1, hL, h2, h3⟩, st⟩
  · dsimp only [Pt.U, Pt.locs, Pt.cells, Pt.slots] at X' e1 e2 h1 h2 h3 st
    subst h1; subst h2; subst h3
    exact Or.inl ⟨v, (T.setVm vm₁).calling g' mk As.toArray, t, U', L, hT, X', hL, e1, e2, hq, st⟩
  · dsimp only [Pt.U, Pt.locs, Pt.cells, Pt.slots] at X' e1 e2 h1 h2 h3 st hcl
    subst h1; subst h2; subst h3
    exact Or.inr ⟨q, (T.setVm vm₁).calling g' mk As.toArray, t, U', L, E, ce, hT, X', hL, e1, e2, hq, hce, hcv, vx_cls hW₁ hcl, st⟩
end Runs
section Rows
variable {p : Program} {l : Launch} {e : Env} {R : Room} {s : State} {m : MethodId} {args : Array Value} {below : List Frame} {meth : Method} {c : Code} {H : Heap} {locs : List Loc} {cells slots : Nat} {Q : State → Prop}
variable {mc ms : Nat} {free : Addr → Prop} {A0 A1 : Nat → Prop} {H0 : Heap} {a : Array Value} {pc : Nat} {ls : Array Slot} {st0 rest : List Value}
theorem vx_keep {st₀ t T' : State} {L : List Loc} (h0 : st₀.heap = H) (e1 : T'.heap = t.heap) (hS : va_S A0 H0 H locs) (hA : ∀ q, q < H.size → A1 q → A0 q) (hf : ∀ q, free q → A0 q) (hL : ∀ q ∈ L, free q.base) (hF : va_F A1 st₀ t) :
    H.size ≤ T'.heap.size ∧ (∀ q : Nat, q < H.size → ¬ A1 q → T'.heap[q]? = H[q]?) ∧ va_S A0 H0 T'.heap (locs ++ L) := by
  obtain ⟨hz, hk⟩ := hF
  rw [h0] at hz hk
  exact ⟨by rw [e1]; exact hz, fun q h1 h2 => by rw [e1]; exact hk q h1 h2,
    ⟨Nat.le_trans hS.1 (by rw [e1]; exact hz), fun q h1 h2 => by rw [e1, hk q (Nat.lt_of_lt_of_le h1 hS.1) (fun z => h2 (hA q (Nat.lt_of_lt_of_le h1 hS.1) z))]; exact hS.2.1 q h1 h2, fun q hq => by
      rcases List.mem_append.mp hq with h | h
      · exact hS.2.2 q h
      · exact hf _ (hL q h)⟩⟩
theorem vx_calli {S SX : Type} {post : Int32 → S → Prop} {px : SX → Prop} {B : S → State → Prop} {BX : String → SX → State → Prop} {AX : Nat → Prop} (hr : vx_Run p l e R s m args below meth c H locs cells slots mc ms (F0 m pc ls st0) rest (va_Qi post B A1 a) (vx_X px BX AX) free) (hS : va_S A0 H0 H locs) (hA : ∀ q, q < H.size → A1 q → A0 q) (hf : ∀ q, free q → A0 q) (hAX : ∀ q, q < H.size → AX q → A0 q)
    (kx : ∀ (E : String) (ce : Cell) (q9 : Addr) (u : SX) (t : State) (H1 : Heap) (locs1 : List Loc), t.heap = H1 → s.vm.Alike t.vm → px u → BX E u t → H.size ≤ H1.size → (∀ q : Nat, q < H.size → ¬ AX q → H1[q]? = H[q]?) → va_S A0 H0 H1 locs1 → H1[q9]? = some ce → ce.vm = .none → s.vm.findClass E = some ce.cls → vx_W p l e R s m args below meth c H1 locs1 (cells + mc) (slots + ms) Q (F0 m pc ls rest) q9)
    (kk : ∀ (r : Int32) (u : S) (t : State) (H1 : Heap) (locs1 : List Loc), t.heap = H1 → s.vm.Alike t.vm → post r u → B u t → H.size ≤ H1.size → (∀ q : Nat, q < H.size → ¬ A1 q → H1[q]? = H[q]?) → va_S A0 H0 H1 locs1 → W p l e R s m args below meth c H1 locs1 (cells + mc) (slots + ms) Q (F0 m (pc + 3) ls (.int r :: rest))) : W p l e R s m args below meth c H locs cells slots Q (F0 m pc ls st0) := by
  intro T hT X
  rcases hr T hT X with ⟨v, st₀, t, T', L, h0, X', hL, e1, e2, ⟨⟨r, u, hv, hp, hb⟩, hF⟩, st⟩ | ⟨q, st₀, t, T', L, E, ce, h0, X', hL, e1, e2, ⟨u, hp, hb, hF⟩, hce, hcv, hcl, st⟩
  · cases hv
    obtain ⟨k1, k2, k3⟩ := vx_keep h0 e1 hS hA hf hL hF
    obtain ⟨t2, a1, b1⟩ := kk r u t T'.heap (locs ++ L) e1.symm (by rw [← e2]; exact X'.warmed.alike) hp hb k1 k2 k3 T' rfl X'
    exact ⟨t2, st t2 a1, b1⟩
  · obtain ⟨k1, k2, k3⟩ := vx_keep h0 e1 hS hAX hf hL hF
    obtain ⟨t2, a1, b1⟩ := kx E ce q u t T'.heap (locs ++ L) e1.symm (by rw [← e2]; exact X'.warmed.alike) hp hb k1 k2 k3 (by rw [e1]; exact hce) hcv hcl T' rfl X'
    exact ⟨t2, st.trans a1, b1⟩
theorem vx_calll {S SX : Type} {post : Int64 → S → Prop} {px : SX → Prop} {B : S → State → Prop} {BX : String → SX → State → Prop} {AX : Nat → Prop} (hr : vx_Run p l e R s m args below meth c H locs cells slots mc ms (F0 m pc ls st0) rest (va_Ql post B A1 a) (vx_X px BX AX) free) (hS : va_S A0 H0 H locs) (hA : ∀ q, q < H.size → A1 q → A0 q) (hf : ∀ q, free q → A0 q) (hAX : ∀ q, q < H.size → AX q → A0 q)
    (kx : ∀ (E : String) (ce : Cell) (q9 : Addr) (u : SX) (t : State) (H1 : Heap) (locs1 : List Loc), t.heap = H1 → s.vm.Alike t.vm → px u → BX E u t → H.size ≤ H1.size → (∀ q : Nat, q < H.size → ¬ AX q → H1[q]? = H[q]?) → va_S A0 H0 H1 locs1 → H1[q9]? = some ce → ce.vm = .none → s.vm.findClass E = some ce.cls → vx_W p l e R s m args below meth c H1 locs1 (cells + mc) (slots + ms) Q (F0 m pc ls rest) q9)
    (kk : ∀ (r : Int64) (u : S) (t : State) (H1 : Heap) (locs1 : List Loc), t.heap = H1 → s.vm.Alike t.vm → post r u → B u t → H.size ≤ H1.size → (∀ q : Nat, q < H.size → ¬ A1 q → H1[q]? = H[q]?) → va_S A0 H0 H1 locs1 → W p l e R s m args below meth c H1 locs1 (cells + mc) (slots + ms) Q (F0 m (pc + 3) ls (.long r :: rest))) : W p l e R s m args below meth c H locs cells slots Q (F0 m pc ls st0) := by
  intro T hT X
  rcases hr T hT X with ⟨v, st₀, t, T', L, h0, X', hL, e1, e2, ⟨⟨r, u, hv, hp, hb⟩, hF⟩, st⟩ | ⟨q, st₀, t, T', L, E, ce, h0, X', hL, e1, e2, ⟨u, hp, hb, hF⟩, hce, hcv, hcl, st⟩
  · cases hv
    obtain ⟨k1, k2, k3⟩ := vx_keep h0 e1 hS hA hf hL hF
    obtain ⟨t2, a1, b1⟩ := kk r u t T'.heap (locs ++ L) e1.symm (by rw [← e2]; exact X'.warmed.alike) hp hb k1 k2 k3 T' rfl X'
    exact ⟨t2, st t2 a1, b1⟩
  · obtain ⟨k1, k2, k3⟩ := vx_keep h0 e1 hS hAX hf hL hF
    obtain ⟨t2, a1, b1⟩ := kx E ce q u t T'.heap (locs ++ L) e1.symm (by rw [← e2]; exact X'.warmed.alike) hp hb k1 k2 k3 (by rw [e1]; exact hce) hcv hcl T' rfl X'
    exact ⟨t2, st.trans a1, b1⟩
theorem vx_callf {S SX : Type} {post : UInt32 → S → Prop} {px : SX → Prop} {B : S → State → Prop} {BX : String → SX → State → Prop} {AX : Nat → Prop} (hr : vx_Run p l e R s m args below meth c H locs cells slots mc ms (F0 m pc ls st0) rest (va_Qf post B A1 a) (vx_X px BX AX) free) (hS : va_S A0 H0 H locs) (hA : ∀ q, q < H.size → A1 q → A0 q) (hf : ∀ q, free q → A0 q) (hAX : ∀ q, q < H.size → AX q → A0 q)
    (kx : ∀ (E : String) (ce : Cell) (q9 : Addr) (u : SX) (t : State) (H1 : Heap) (locs1 : List Loc), t.heap = H1 → s.vm.Alike t.vm → px u → BX E u t → H.size ≤ H1.size → (∀ q : Nat, q < H.size → ¬ AX q → H1[q]? = H[q]?) → va_S A0 H0 H1 locs1 → H1[q9]? = some ce → ce.vm = .none → s.vm.findClass E = some ce.cls → vx_W p l e R s m args below meth c H1 locs1 (cells + mc) (slots + ms) Q (F0 m pc ls rest) q9)
    (kk : ∀ (r : UInt32) (u : S) (t : State) (H1 : Heap) (locs1 : List Loc), t.heap = H1 → s.vm.Alike t.vm → post r u → B u t → H.size ≤ H1.size → (∀ q : Nat, q < H.size → ¬ A1 q → H1[q]? = H[q]?) → va_S A0 H0 H1 locs1 → W p l e R s m args below meth c H1 locs1 (cells + mc) (slots + ms) Q (F0 m (pc + 3) ls (.float r :: rest))) : W p l e R s m args below meth c H locs cells slots Q (F0 m pc ls st0) := by
  intro T hT X
  rcases hr T hT X with ⟨v, st₀, t, T', L, h0, X', hL, e1, e2, ⟨⟨r, u, hv, hp, hb⟩, hF⟩, st⟩ | ⟨q, st₀, t, T', L, E, ce, h0, X', hL, e1, e2, ⟨u, hp, hb, hF⟩, hce, hcv, hcl, st⟩
  · cases hv
    obtain ⟨k1, k2, k3⟩ := vx_keep h0 e1 hS hA hf hL hF
    obtain ⟨t2, a1, b1⟩ := kk r u t T'.heap (locs ++ L) e1.symm (by rw [← e2]; exact X'.warmed.alike) hp hb k1 k2 k3 T' rfl X'
    exact ⟨t2, st t2 a1, b1⟩
  · obtain ⟨k1, k2, k3⟩ := vx_keep h0 e1 hS hAX hf hL hF
    obtain ⟨t2, a1, b1⟩ := kx E ce q u t T'.heap (locs ++ L) e1.symm (by rw [← e2]; exact X'.warmed.alike) hp hb k1 k2 k3 (by rw [e1]; exact hce) hcv hcl T' rfl X'
    exact ⟨t2, st.trans a1, b1⟩
theorem vx_calld {S SX : Type} {post : UInt64 → S → Prop} {px : SX → Prop} {B : S → State → Prop} {BX : String → SX → State → Prop} {AX : Nat → Prop} (hr : vx_Run p l e R s m args below meth c H locs cells slots mc ms (F0 m pc ls st0) rest (va_Qd post B A1 a) (vx_X px BX AX) free) (hS : va_S A0 H0 H locs) (hA : ∀ q, q < H.size → A1 q → A0 q) (hf : ∀ q, free q → A0 q) (hAX : ∀ q, q < H.size → AX q → A0 q)
    (kx : ∀ (E : String) (ce : Cell) (q9 : Addr) (u : SX) (t : State) (H1 : Heap) (locs1 : List Loc), t.heap = H1 → s.vm.Alike t.vm → px u → BX E u t → H.size ≤ H1.size → (∀ q : Nat, q < H.size → ¬ AX q → H1[q]? = H[q]?) → va_S A0 H0 H1 locs1 → H1[q9]? = some ce → ce.vm = .none → s.vm.findClass E = some ce.cls → vx_W p l e R s m args below meth c H1 locs1 (cells + mc) (slots + ms) Q (F0 m pc ls rest) q9)
    (kk : ∀ (r : UInt64) (u : S) (t : State) (H1 : Heap) (locs1 : List Loc), t.heap = H1 → s.vm.Alike t.vm → post r u → B u t → H.size ≤ H1.size → (∀ q : Nat, q < H.size → ¬ A1 q → H1[q]? = H[q]?) → va_S A0 H0 H1 locs1 → W p l e R s m args below meth c H1 locs1 (cells + mc) (slots + ms) Q (F0 m (pc + 3) ls (.double r :: rest))) : W p l e R s m args below meth c H locs cells slots Q (F0 m pc ls st0) := by
  intro T hT X
  rcases hr T hT X with ⟨v, st₀, t, T', L, h0, X', hL, e1, e2, ⟨⟨r, u, hv, hp, hb⟩, hF⟩, st⟩ | ⟨q, st₀, t, T', L, E, ce, h0, X', hL, e1, e2, ⟨u, hp, hb, hF⟩, hce, hcv, hcl, st⟩
  · cases hv
    obtain ⟨k1, k2, k3⟩ := vx_keep h0 e1 hS hA hf hL hF
    obtain ⟨t2, a1, b1⟩ := kk r u t T'.heap (locs ++ L) e1.symm (by rw [← e2]; exact X'.warmed.alike) hp hb k1 k2 k3 T' rfl X'
    exact ⟨t2, st t2 a1, b1⟩
  · obtain ⟨k1, k2, k3⟩ := vx_keep h0 e1 hS hAX hf hL hF
    obtain ⟨t2, a1, b1⟩ := kx E ce q u t T'.heap (locs ++ L) e1.symm (by rw [← e2]; exact X'.warmed.alike) hp hb k1 k2 k3 (by rw [e1]; exact hce) hcv hcl T' rfl X'
    exact ⟨t2, st.trans a1, b1⟩
theorem vx_callv {S SX : Type} {post : S → Prop} {px : SX → Prop} {B : S → State → Prop} {BX : String → SX → State → Prop} {AX : Nat → Prop} (hr : vx_Run p l e R s m args below meth c H locs cells slots mc ms (F0 m pc ls st0) rest (va_Qv post B A1 a) (vx_X px BX AX) free) (hS : va_S A0 H0 H locs) (hA : ∀ q, q < H.size → A1 q → A0 q) (hf : ∀ q, free q → A0 q) (hAX : ∀ q, q < H.size → AX q → A0 q)
    (kx : ∀ (E : String) (ce : Cell) (q9 : Addr) (u : SX) (t : State) (H1 : Heap) (locs1 : List Loc), t.heap = H1 → s.vm.Alike t.vm → px u → BX E u t → H.size ≤ H1.size → (∀ q : Nat, q < H.size → ¬ AX q → H1[q]? = H[q]?) → va_S A0 H0 H1 locs1 → H1[q9]? = some ce → ce.vm = .none → s.vm.findClass E = some ce.cls → vx_W p l e R s m args below meth c H1 locs1 (cells + mc) (slots + ms) Q (F0 m pc ls rest) q9)
    (kk : ∀ (u : S) (t : State) (H1 : Heap) (locs1 : List Loc), t.heap = H1 → s.vm.Alike t.vm → post u → B u t → H.size ≤ H1.size → (∀ q : Nat, q < H.size → ¬ A1 q → H1[q]? = H[q]?) → va_S A0 H0 H1 locs1 → W p l e R s m args below meth c H1 locs1 (cells + mc) (slots + ms) Q (F0 m (pc + 3) ls (rest))) : W p l e R s m args below meth c H locs cells slots Q (F0 m pc ls st0) := by
  intro T hT X
  rcases hr T hT X with ⟨v, st₀, t, T', L, h0, X', hL, e1, e2, ⟨⟨u, hv, hp, hb⟩, hF⟩, st⟩ | ⟨q, st₀, t, T', L, E, ce, h0, X', hL, e1, e2, ⟨u, hp, hb, hF⟩, hce, hcv, hcl, st⟩
  · cases hv
    obtain ⟨k1, k2, k3⟩ := vx_keep h0 e1 hS hA hf hL hF
    obtain ⟨t2, a1, b1⟩ := kk u t T'.heap (locs ++ L) e1.symm (by rw [← e2]; exact X'.warmed.alike) hp hb k1 k2 k3 T' rfl X'
    exact ⟨t2, st t2 a1, b1⟩
  · obtain ⟨k1, k2, k3⟩ := vx_keep h0 e1 hS hAX hf hL hF
    obtain ⟨t2, a1, b1⟩ := kx E ce q u t T'.heap (locs ++ L) e1.symm (by rw [← e2]; exact X'.warmed.alike) hp hb k1 k2 k3 (by rw [e1]; exact hce) hcv hcl T' rfl X'
    exact ⟨t2, st.trans a1, b1⟩
/-- caught by the row x of this method's table; the rows ahead don't take it -/
theorem vx_catch {own name : String} {E : String} {ce : Cell} {q : Addr} (hown : s.vm.findClass own = some m.cls) (pre : List ExceptionTableEntry) (x : ExceptionTableEntry) (suf : List ExceptionTableEntry) (hsplit : c.exceptionTable.toList = pre ++ x :: suf)
    (hpass : ∀ z ∈ pre, covers z pc = false ∨ (z.catchType ≠ 0 ∧ ∃ nm : String, (Cond.classLink own z.catchType nm).before args s = true ∧ va_Nc E nm s)) (hx : covers x pc = true) (h0 : x.catchType ≠ 0)
    (hlink : (Cond.classLink own x.catchType name).before args s = true) (hcast : (Cond.castable E name).before args s = true) (hcell : H[q]? = some ce) (hv : ce.vm = .none) (hcl : s.vm.findClass E = some ce.cls)
    (kk : W p l e R s m args below meth c H locs cells slots Q (F0 m x.handlerPc ls [.ref q])) : vx_W p l e R s m args below meth c H locs cells slots Q (F0 m pc ls rest) q := by
  intro T hT X
  have hpl : e.platform.magicAccessors = ({} : Platform).magicAccessors := by rw [X.admits.platform]
  obtain ⟨c3, c4, hc3, hc4, hasg⟩ := Cond.castable_spec hcast
  cases Option.some.inj (hc3.symm.trans hcl)
  obtain ⟨c5, hc5, hcl5⟩ := Cond.classLink_spec hown hlink e.platform hpl
  cases Option.some.inj (hc4.symm.trans hc5)
  obtain ⟨vm', X', st⟩ := X.thenCaughtThrough q (g := F0 m pc ls rest) rfl (Steps.refl _) (by rw [hT]; exact hcell) (by rw [hv]; rfl) (by obtain ⟨k9, h9, -⟩ := Vm.findClass_spec hcl; exact ⟨k9, h9⟩) pre x suf hsplit
    (fun z hz => by
      rcases hpass z hz with h | ⟨hz0, nm, hl1, hn1⟩
      · exact Or.inl h
      · obtain ⟨c6, hc6, hcl6⟩ := Cond.classLink_spec hown hl1 e.platform hpl
        obtain ⟨a8, b8, h1, h2, h3⟩ := hn1
        cases Option.some.inj (h1.symm.trans hcl)
        cases Option.some.inj (h2.symm.trans hc6)
        exact Or.inr ⟨hz0, _, hcl6, h3⟩) hx (Or.inr ⟨h0, c4, hcl5, hasg⟩)
  obtain ⟨t, a1, b1⟩ := kk (T.setVm vm') hT X'
  exact ⟨t, st.trans a1, b1⟩
end Rows
section Ends
variable {p : Program} {l : Launch} {e : Env} {R : Room} {s : State} {m : MethodId} {args : Array Value} {below : List Frame} {meth : Method} {c : Code} {H : Heap} {locs : List Loc} {cells slots : Nat} {Q : State → Prop}
variable {mc ms : Nat} {free : Addr → Prop} {A0 A1 : Nat → Prop} {H0 : Heap} {a : Array Value} {ls : Array Slot} {st0 rest : List Value}
variable {Qc : Array Value → State → Outcome → State → Prop} {XC : String → State → State → Prop}
/-- what a body that may throw owes at its end -/
def vx_MQ (below : List Frame) (Qc : Array Value → State → Outcome → State → Prop) (XC : String → State → State → Prop) (a : Array Value) (s : State) (mc ms : Nat) (free : Addr → Prop) : State → Prop := fun t =>
  ∃ o, t.status = .running ∧ Ended t below o ∧ vx_Q Qc XC mc ms free a s o t
theorem vx_ret {g : JFrame} {mc ms : Nat} (k : W p l e R s m args below meth c H locs cells slots (MQ below Qc args s mc ms free) g) : W p l e R s m args below meth c H locs cells slots (vx_MQ below Qc XC args s mc ms free) g := by
  intro T hT X
  obtain ⟨t, a1, o, b1, b2, b3, b4⟩ := k T hT X
  exact ⟨t, a1, o, b1, b2, Or.inl ⟨b3, b4⟩⟩
/-- not caught here: it goes on to the caller -/
theorem vx_widen {g : JFrame} {q : Addr} {k n : Nat} (h1 : cells ≤ k) (h2 : slots ≤ n) (kk : vx_W p l e R s m args below meth c H locs k n Q g q) : vx_W p l e R s m args below meth c H locs cells slots Q g q := fun T hT X => kk T hT (stand_widen X h1 h2)
theorem vx_out {pc : Nat} {E : String} {ce : Cell} {q : Addr} {mc ms : Nat} (hout : ∀ x ∈ c.exceptionTable.toList, covers x pc = false) (hlocks : meth.locks = false) (hcell : H[q]? = some ce) (hv : ce.vm = .none) (hcl : s.vm.findClass E = some ce.cls)
    (hx : ∀ t : State, t.heap = H → s.vm.Alike t.vm → XC E s t) (hf : ∀ z ∈ locs, free z.base) (hc : cells ≤ mc) (hs : slots ≤ ms) :
    vx_W p l e R s m args below meth c H locs cells slots (vx_MQ below Qc XC args s mc ms free) (F0 m pc ls rest) q := by
  intro T hT X
  obtain ⟨st1, hrun, hend, hW, hsm⟩ := X.leaveThrown q (g := F0 m pc ls rest) rfl rfl rfl hout hlocks
  have hcell9 : (T.setFrames (.throwing q :: below)).heap[q]? = some ce := by
    show T.heap[q]? = some ce
    rw [hT]; exact hcell
  exact ⟨_, st1, .threw q, hrun, hend, Or.inr ⟨q, rfl, E, ce, locs, hx _ hT hW.alike, hcell9, hv, hcl, hW, hsm.mono hc hs, hf⟩⟩
theorem vx_frame {U : State} {k n : Nat} (h : s.sameButNew ({ U with vm := s.vm } : State) locs k n) : s.heap.size ≤ U.heap.size ∧ ∀ q : Nat, q < s.heap.size → (∀ z ∈ locs, z.base ≠ q) → U.heap[q]? = s.heap[q]? := by
  obtain ⟨-, h2, -, -, -, h6⟩ := h
  refine ⟨h2, fun q hq hz => ?_⟩
  obtain ⟨c9, e1, e2, e3, e4⟩ := h6 q _ (Array.getElem?_eq_getElem hq)
  have hs : c9.slots = (s.heap[q]).slots := Array.ext_getElem? fun i => e4 i fun hm => hz _ hm rfl
  have h9 : c9 = s.heap[q] := by
    rw [hs] at e2
    exact e2
  have e5 : U.heap[q]? = some c9 := e1
  rw [e5, h9, Array.getElem?_eq_getElem hq]
/-- the words of a throw but the four that speak of the heap -/
def vx_no (w : Cond) : Bool := decide (w ≠ .isRef (.static Bundle.tN "UNASSIGNED_STACK" Bundle.steD)) && decide (w ≠ .isRef (.static Bundle.tN "SUPPRESSED_SENTINEL" Bundle.listD)) && decide (w ≠ .laysStatic Bundle.tN "UNASSIGNED_STACK" Bundle.steD) && decide (w ≠ .laysStatic Bundle.tN "SUPPRESSED_SENTINEL" Bundle.listD)
def vx_at0 (own : String) (ic : Nat) (X : String) (names : List String) : List Cond := (Bundle.ownAtoms0 own ic X names).filter vx_no
def vx_atS (own : String) (ic : Nat) (X : String) (names : List String) : List Cond := (Bundle.ownAtoms own ic X names).filter vx_no
/-- a word that the tables alone decide, or a good one -/
def vx_ot (w : Cond) : Bool := w.onTables || goodWord w
theorem vx_ot_at {args a' : Array Value} {s U : State} {w : Cond} (hW : s.WarmedH U.vm) (hvm : s.vm = U.vm) (hg : vx_ot w = true) (h : w.before args s = true) : w.before a' U = true := by
  simp only [vx_ot, Bool.or_eq_true] at hg
  rcases hg with hg | hg
  · exact va_tabs hg hvm h
  · exact word_at hW (good_of_word hg) h
/-- a list's words: the good ones out of the method's own list, the others by premises of their own -/
theorem vx_hat {args : Array Value} {s : State} {L B : List Cond} (h1 : ∀ w ∈ L.filter goodWord, w.before args s = true) (h2 : ∀ w ∈ L.filter (fun w => !goodWord w), w ∈ B) (h3 : ∀ w ∈ B, w.before args s = true) : ∀ w ∈ L, w.before args s = true := by
  intro w hw
  by_cases g : goodWord w = true
  · exact h1 w (List.mem_filter.mpr ⟨hw, g⟩)
  · refine h3 w (h2 w (List.mem_filter.mpr ⟨hw, ?_⟩))
    show (!goodWord w) = true
    cases hgw : goodWord w
    · rfl
    · exact absurd hgw g
theorem vx_c {args : Array Value} {s : State} {w : Cond} {B : List Cond} (h : w.before args s = true) (t : ∀ w ∈ B, w.before args s = true) : ∀ w' ∈ w :: B, w'.before args s = true := fun w' h' => (List.mem_cons.mp h').elim (fun e => by rw [e]; exact h) (t w')
theorem vx_n {args : Array Value} {s : State} : ∀ w ∈ ([] : List Cond), w.before args s = true := fun _ h => nomatch h
theorem vx_own {args : Array Value} {s : State} {L : List Cond} (h1 : ∀ w ∈ L.filter vx_no, w.before args s = true)
    (hU : (Cond.isRef (.static Bundle.tN "UNASSIGNED_STACK" Bundle.steD)).before args s = true) (hN : (Cond.isRef (.static Bundle.tN "SUPPRESSED_SENTINEL" Bundle.listD)).before args s = true)
    (lU : (Cond.laysStatic Bundle.tN "UNASSIGNED_STACK" Bundle.steD).before args s = true) (lN : (Cond.laysStatic Bundle.tN "SUPPRESSED_SENTINEL" Bundle.listD).before args s = true) : ∀ w ∈ L, w.before args s = true := by
  intro w hw
  by_cases e1 : w = .isRef (.static Bundle.tN "UNASSIGNED_STACK" Bundle.steD)
  · rw [e1]; exact hU
  · by_cases e2 : w = .isRef (.static Bundle.tN "SUPPRESSED_SENTINEL" Bundle.listD)
    · rw [e2]; exact hN
    · by_cases e3 : w = .laysStatic Bundle.tN "UNASSIGNED_STACK" Bundle.steD
      · rw [e3]; exact lU
      · by_cases e4 : w = .laysStatic Bundle.tN "SUPPRESSED_SENTINEL" Bundle.listD
        · rw [e4]; exact lN
        · exact h1 w (List.mem_filter.mpr ⟨hw, by unfold vx_no; rw [decide_eq_true e1, decide_eq_true e2, decide_eq_true e3, decide_eq_true e4]; rfl⟩)
/-- where a static field lies, its class's statics cell in H -/
def vx_L (C n d : String) (A : Nat → Prop) (U : State) (H : Heap) : Prop := ∃ (c : ClassId) (k : Class) (i : Nat) (f : Field) (a : Nat) (cell : Cell), U.vm.findClass C = some c ∧ U.fieldFound? C n d = some (c, k, i, f) ∧ f.isStatic = true ∧ k.statics = some a ∧ H[a]? = some cell ∧ cell.vm.isStatics = true ∧ cell.cls = c ∧ f.slot < cell.slots.size ∧ k.staticTypes[f.slot]? = some f.type ∧ ¬ A a
theorem vx_L.moved {C n d : String} {A : Nat → Prop} {u U : State} {H : Heap} (hvm : u.vm.Alike U.vm) (h : vx_L C n d A u H) : vx_L C n d A U H := by
  obtain ⟨c, k, i, f, a, cell, h1, h2, h3, h4, h5, h6, h7, h8, h9, h10⟩ := h
  obtain ⟨k', hi', he⟩ := State.fieldFound?_setVm hvm h2
  exact ⟨c, k', i, f, a, cell, by rw [hvm.findClass]; exact h1, hi', h3, by rw [he]; exact h4, h5, h6, h7, h8, by rw [he]; exact h9, h10⟩
theorem vx_L.kept {C n d : String} {A : Nat → Prop} {U : State} {H H1 : Heap} (h : vx_L C n d A U H) (hq : ∀ a : Nat, a < H.size → ¬ A a → H1[a]? = H[a]?) : vx_L C n d A U H1 := by
  obtain ⟨c, k, i, f, a, cell, h1, h2, h3, h4, h5, h6, h7, h8, h9, h10⟩ := h
  exact ⟨c, k, i, f, a, cell, h1, h2, h3, h4, by rw [hq a (Array.getElem?_eq_some_iff.mp h5).1 h10]; exact h5, h6, h7, h8, h9, h10⟩
theorem vx_L.narrow {C n d : String} {A B : Nat → Prop} {U : State} {H : Heap} (h : vx_L C n d A U H) (hAB : ∀ q, B q → A q) : vx_L C n d B U H := by
  obtain ⟨c, k, i, f, a, cell, h1, h2, h3, h4, h5, h6, h7, h8, h9, h10⟩ := h
  exact ⟨c, k, i, f, a, cell, h1, h2, h3, h4, h5, h6, h7, h8, h9, fun z => h10 (hAB _ z)⟩
theorem vx_L.word {C n d : String} {A : Nat → Prop} {s : State} {args : Array Value} (h : vx_L C n d A s s.heap) : (Cond.laysStatic C n d).before args s = true := by
  obtain ⟨c, k, i, f, a, cell, h1, h2, h3, h4, h5, h6, h7, h8, h9, -⟩ := h
  show (Cond.laysStatic C n d).holds args s none s [] = true
  exact Cond.laysStatic_of h1 h2 h3 h4 h5 h6 h7 h8 h9
/-- .. and what it holds: null or some reference -/
def vx_Zq (C n d : String) (A : Nat → Prop) (U : State) (H : Heap) : Prop := va_Zq C n d A U H ∧ vx_L C n d A U H
theorem vx_Zq.moved {C n d : String} {A : Nat → Prop} {u U : State} {H : Heap} (hvm : u.vm.Alike U.vm) (h : vx_Zq C n d A u H) : vx_Zq C n d A U H := ⟨va_Zq.moved hvm h.1, vx_L.moved hvm h.2⟩
theorem vx_Zq.kept {C n d : String} {A : Nat → Prop} {U : State} {H H1 : Heap} (h : vx_Zq C n d A U H) (hq : ∀ a : Nat, a < H.size → ¬ A a → H1[a]? = H[a]?) : vx_Zq C n d A U H1 := ⟨va_Zq.kept h.1 hq, vx_L.kept h.2 hq⟩
theorem vx_Zq.narrow {C n d : String} {A B : Nat → Prop} {U : State} {H : Heap} (h : vx_Zq C n d A U H) (hAB : ∀ q, B q → A q) : vx_Zq C n d B U H := ⟨va_Zq.narrow h.1 hAB, vx_L.narrow h.2 hAB⟩
theorem vx_Zqof {args : Array Value} {s : State} {C n d : String} {A : Nat → Prop} (hl : (Cond.laysStatic C n d).before args s = true) (hini : (Cond.initialized C).before args s = true) (h : (Cond.isRef (.static C n d)).before args s = true) (hA : ∀ a : Nat, a < s.heap.size → ¬ A a) : vx_Zq C n d A s s.heap := by
  refine ⟨va_Zqof hl hini h hA, ?_⟩
  obtain ⟨c, k, i, f, a, cell, h1, h2, h3, h4, h5, h6, h7, h8, h9⟩ := Cond.laysStatic_spec hl
  exact ⟨c, k, i, f, a, cell, h1, h2, h3, h4, h5, h6, h7, h8, h9, hA a (Array.getElem?_eq_some_iff.mp h5).1⟩
theorem vx_isRef {C n d : String} {v : Value} {A : Nat → Prop} {s : State} {args : Array Value} (h : va_Z C n d v A s s.heap) (hv : v.isRef = true) : (Cond.isRef (.static C n d)).before args s = true := by
  obtain ⟨cf, kf, fi, f, a, cell, h1, h2, h3, h4, h5, h6, h7, -⟩ := h
  have he : (Term.static C n d).eval args s none [] s = some v := by
    simp [Term.eval, State.fieldNamed?, h1, h2, h4, h5, h6, h7]
  simp only [Cond.before, Cond.holds, Cond.value, he]
  cases v <;> simp_all [Value.isRef]
theorem vx_isRefq {C n d : String} {A : Nat → Prop} {s : State} {args : Array Value} (h : va_Zq C n d A s s.heap) : (Cond.isRef (.static C n d)).before args s = true := by
  rcases h with h | ⟨t, h⟩
  · exact vx_isRef h rfl
  · exact vx_isRef h rfl
/-- the same frame, seen from here: as if the method were called anew in this heap -/
theorem vx_rebase {T : State} (X : Stand p l e R s m args below meth c T locs cells slots) {R' : Room} (hf : R'.frames ≤ R.frames) (hl : R'.locals ≤ R.locals) (hc : cells + R'.cells ≤ R.cells) (hs : slots + R'.slots ≤ R.slots) :
    Stand p l e R' ((T.setVm s.vm).setFrames (.invoking m args :: below)) m args below meth c T [] 0 0 := by
  have htop : (T.setVm s.vm).topJava?.isSome := X.here.top
  have hF : ((T.setVm s.vm).setFrames (.invoking m args :: below)).frames = .invoking m args :: below := State.frames_setFrames _ (State.cur_lt_of_top htop)
  obtain ⟨g₀, hg0⟩ := Option.isSome_iff_exists.mp htop
  obtain ⟨r, hr⟩ := State.topJava?_eq_some.mp hg0
  have hl9 : e.platform.stackLimits (T.setVm s.vm).me = e.platform.stackLimits s.me := X.limits
  have hb9 : (T.setVm s.vm).me.stackBytes = s.me.stackBytes := X.bytes
  refine ⟨X.admits, X.cas, X.clock, hF, ?_, X.hears, X.method, X.code, X.here, X.tail, X.warmed, ?_, ?_, ?_⟩
  · have h := X.room
    have hU : ((T.setVm s.vm).setFrames (.invoking m args :: below)).localsInUse = s.localsInUse := by
      rw [State.localsInUse_invoking hF (meth := meth) (c := c) X.method X.code, State.localsInUse_invoking X.frames X.method X.code]
    simp only [State.hasRoom, Bool.and_eq_true, decide_eq_true_eq] at h ⊢
    obtain ⟨⟨⟨⟨h1, h2, h3, h4, h5, h6⟩, h7⟩, h8⟩, h9⟩ := h
    rw [X.frames, List.length_cons] at h2 h3
    have q1 := X.heapSize
    have q2 := X.used
    simp only [hF, hU, List.length_cons, State.stackLimits_setFrames, State.stackBytes_setFrames, hl9, hb9]
    refine ⟨⟨⟨⟨by omega, by omega, by omega, by omega, by omega, h6⟩, ?_⟩, ?_⟩, X.book⟩
    · show T.heap.size + R'.cells ≤ e.platform.maxCells
      omega
    · show T.slotsUsed + R'.slots ≤ e.platform.maxSlots
      omega
  · rw [State.stackLimits_setFrames]; rfl
  · rw [State.stackBytes_setFrames]; rfl
  · refine ⟨?_, Nat.le_refl _, Nat.le_refl _, ?_, ?_, fun a c9 h9 => ⟨c9, h9, rfl, rfl, fun _ _ => rfl⟩⟩
    · obtain ⟨t, ht, -⟩ := State.frames_cons hr
      show T.setVm s.vm = { ((T.setVm s.vm).setFrames (.invoking m args :: below)).setFrames (T.setVm s.vm).frames with heap := T.heap, slotsUsed := T.slotsUsed }
      rw [State.setFrames_setFrames, State.setFrames_self ht]
      rfl
    · show T.slotsUsed = T.slotsUsed + ((T.heap.toList.drop T.heap.size).map (·.slots.size)).sum
      rw [List.drop_eq_nil_of_le (Nat.le_of_eq Array.length_toList)]
      rfl
    · show ((T.heap.toList.drop T.heap.size).map (·.slots.size)).sum ≤ 0
      rw [List.drop_eq_nil_of_le (Nat.le_of_eq Array.length_toList)]
      exact Nat.le_refl _
/-- 'throw new E()': new; dup; invokespecial; athrow -/
theorem vx_throw0 {cc : ByteArray} {pc : Nat} (hexec : p.tables.exec = Jvm.exec) (hb : c.code = cc) (hl : l.stackTraces = false) {own cls : String} {names : List String} {ik ic mc ms : Nat} {A : Nat → Prop}
    (hown : s.vm.findClass own = some m.cls) (hcls : Bundle.fit cls = true) (hnames : ∀ n ∈ names, Bundle.fit n = true)
    (hk : (Cond.classLink own ik cls).before args s = true) (hini : (Cond.initialized cls).before args s = true) (hat : ∀ w ∈ vx_at0 own ic cls names, w.before args s = true)
    (hgood : ∀ w ∈ Cond.classLink own ik cls :: Cond.initialized cls :: vx_at0 own ic cls names, vx_ot w = true)
    (hU : vx_Zq Bundle.tN "UNASSIGNED_STACK" Bundle.steD A s s.heap) (hN : vx_Zq Bundle.tN "SUPPRESSED_SENTINEL" Bundle.listD A s s.heap) (hS : va_S A s.heap H locs) (hsize : ls.size = c.maxLocals)
    (d0 : decode cc pc = .ok (.new ik, 3)) (d3 : decode cc (pc + 3) = .ok (.dup, 1)) (d4 : decode cc (pc + 4) = .ok (.invokespecial ic, 3)) (d7 : decode cc (pc + 7) = .ok (.athrow, 1))
    (hout : ∀ x ∈ c.exceptionTable.toList, covers x (pc + 7) = false)
    (hRframes : names.length + 3 < R.frames) (hRlocals : (rest.map fun v => v.category).sum + (13 * (names.length + 1) + 42) ≤ R.locals) (hRcells : cells + 1 ≤ R.cells) (hRslots : slots + 6 ≤ R.slots) (hlocks : meth.locks = false)
    (hx : ∀ t : State, s.vm.Alike t.vm → H.size ≤ t.heap.size → (∀ q : Nat, q < H.size → t.heap[q]? = H[q]?) → XC cls s t)
    (hf : ∀ z ∈ locs, free z.base) (hc : cells + 1 ≤ mc) (hs : slots + 6 ≤ ms) :
    W p l e R s m args below meth c H locs cells slots (vx_MQ below Qc XC args s mc ms free) (F0 m pc ls rest) := by
  intro T hT X
  have htr : e.platform.stackTraces = false := (show e.platform.stackTraces = l.stackTraces by rw [X.admits.platform]).trans hl
  have Y := vx_rebase X (R' := { frames := R.frames, locals := R.locals, cells := 1, slots := 6 }) (Nat.le_refl _) (Nat.le_refl _) hRcells hRslots
  obtain ⟨s', hA⟩ : ∃ z, z = (T.setVm s.vm).setFrames (.invoking m args :: below) := ⟨_, rfl⟩
  rw [← hA] at Y
  have hvm : s'.vm = s.vm := by rw [hA]; rfl
  have hhp : s'.heap = H := by rw [hA]; exact hT
  have hW0 : s.WarmedH s'.vm := by rw [hvm]; exact State.WarmedH.refl s
  have hat' : ∀ w ∈ vx_at0 own ic cls names, w.before args s' = true := fun w hw => vx_ot_at hW0 hvm.symm (hgood w (List.mem_cons_of_mem _ (List.mem_cons_of_mem _ hw))) (hat w hw)
  have hk' : (Cond.classLink own ik cls).before args s' = true := vx_ot_at hW0 hvm.symm (hgood _ List.mem_cons_self) hk
  have hini' : (Cond.initialized cls).before args s' = true := vx_ot_at hW0 hvm.symm (hgood _ (List.mem_cons_of_mem _ List.mem_cons_self)) hini
  have hU' : vx_Zq Bundle.tN "UNASSIGNED_STACK" Bundle.steD A s' s'.heap := by rw [hhp]; exact vx_Zq.moved hW0.alike (hU.kept hS.2.1)
  have hN' : vx_Zq Bundle.tN "SUPPRESSED_SENTINEL" Bundle.listD A s' s'.heap := by rw [hhp]; exact vx_Zq.moved hW0.alike (hN.kept hS.2.1)
  have h : ∀ w ∈ Bundle.ownAtoms0 own ic cls names, w.before args s' = true := vx_own hat' (vx_isRefq hU'.1) (vx_isRefq hN'.1) hU'.2.word hN'.2.word
  have hown' : s'.vm.findClass own = some m.cls := by rw [hvm]; exact hown
  have hins : (Cond.instantiable cls 6).before args s' = true := h _ (by simp [Bundle.ownAtoms0])
  obtain ⟨vm₁, cX, kX, hfX, hkX, -, -, X₁, st1⟩ := Y.newCold hexec (own := own) (C := cls) (index := ik) (n := 6) hown' hk' hins hini'
    (g := F0 m pc ls rest) rfl (by rw [hb]; exact d0) (Nat.le_refl _) (Nat.le_refl _)
  generalize hT1 : (T.setVm vm₁).pushCell { cls := cX, slots := kX.instanceTypes.map defaultValue, vm := .none } = T1 at X₁ st1
  have hcat : (Value.ref T.heap.size).category = 1 := rfl
  have hcellA : T1.heap[T.heap.size]? = some (freshCell cX kX) := by rw [← hT1]; exact State.heap_pushCell_size _ _
  have d3' : decode c.code (pc + 3) = .ok (.dup, 1) := by rw [hb]; exact d3
  obtain ⟨U, hsteps, hrun, hend, hW, hsame, ce, hce, hO⟩ := X₁.ctorThrow0 hexec htr (own := own) (cls := cls) (names := names) (ic := ic) hown' hcls hnames h (fun x hx => nomatch hx) hfX hkX hcellA (by rw [hhp, hT]; exact Nat.le_refl _)
    (g := { method := m, pc := pc + 4, locals := ls, stack := .ref T.heap.size :: .ref T.heap.size :: rest, locked := none }) rfl hsize rfl rfl (rest := rest) rfl
    (by rw [hb]; exact d4) (by rw [hb]; exact d7) hout hRframes (by simp only [List.map_cons, List.sum_cons, hcat]; omega) hlocks
  obtain ⟨f1, f2⟩ := vx_frame hsame
  rw [hhp] at f1 f2
  have hWs : s.WarmedH U.vm := State.WarmedH.trans hW0 hW
  have hcl : s.vm.findClass cls = some ce.cls := by
    have h9 := hO.cls
    rw [hvm] at h9
    exact h9
  have hall : s.sameButNew ({ U with vm := s.vm } : State) locs mc ms := by
    subst hA
    obtain ⟨e1, e2⟩ := hsame
    rw [State.setFrames_setFrames] at e1
    have h2 : (T.setVm s.vm).sameButNew ({ U with vm := s.vm } : State) [] (0 + 1) (0 + 6) := ⟨e1, e2⟩
    have h3 := X.same.trans h2
    rw [List.append_nil] at h3
    exact h3.mono hc hs
  refine ⟨U, ?_, .threw T.heap.size, hrun, hend, Or.inr ⟨T.heap.size, rfl, cls, ce, locs, hx U hWs.alike f1 (fun q hq => f2 q hq (fun z hz => nomatch hz)), hce, hO.vm, hcl, hWs, hall, hf⟩⟩
  refine st1 _ ?_
  show Steps p.tables e below (T1.setTop { method := m, pc := pc + 3, locals := ls, stack := .ref T.heap.size :: rest, locked := none }) _
  jvm_step X₁.here [X₁.here.top, hexec, d3', Value.category]
  exact hsteps
/-- 'throw new E("text")': new; dup; ldc; invokespecial; athrow -/
theorem vx_throwS {cc : ByteArray} {pc : Nat} (hexec : p.tables.exec = Jvm.exec) (hb : c.code = cc) (hl : l.stackTraces = false) {own cls text : String} {names : List String} {ik is ic mc ms sa : Nat} {A : Nat → Prop}
    (hown : s.vm.findClass own = some m.cls) (hcls : Bundle.fit cls = true) (hnames : ∀ n ∈ names, Bundle.fit n = true)
    (hk : (Cond.classLink own ik cls).before args s = true) (hini : (Cond.initialized cls).before args s = true) (hstr : vk_R own is text sa s) (hat : ∀ w ∈ vx_atS own ic cls names, w.before args s = true)
    (hgood : ∀ w ∈ Cond.classLink own ik cls :: Cond.initialized cls :: vx_atS own ic cls names, vx_ot w = true)
    (hU : vx_Zq Bundle.tN "UNASSIGNED_STACK" Bundle.steD A s s.heap) (hN : vx_Zq Bundle.tN "SUPPRESSED_SENTINEL" Bundle.listD A s s.heap) (hS : va_S A s.heap H locs) (hsize : ls.size = c.maxLocals)
    (d0 : decode cc pc = .ok (.new ik, 3)) (d3 : decode cc (pc + 3) = .ok (.dup, 1)) (d4 : decode cc (pc + 4) = .ok (.ldc is, 2)) (d6 : decode cc (pc + 6) = .ok (.invokespecial ic, 3)) (d9 : decode cc (pc + 9) = .ok (.athrow, 1))
    (hout : ∀ x ∈ c.exceptionTable.toList, covers x (pc + 9) = false)
    (hRframes : names.length + 3 < R.frames) (hRlocals : (rest.map fun v => v.category).sum + (13 * (names.length + 1) + 43) ≤ R.locals) (hRcells : cells + 1 ≤ R.cells) (hRslots : slots + 6 ≤ R.slots) (hlocks : meth.locks = false)
    (hx : ∀ t : State, s.vm.Alike t.vm → H.size ≤ t.heap.size → (∀ q : Nat, q < H.size → t.heap[q]? = H[q]?) → XC cls s t)
    (hf : ∀ z ∈ locs, free z.base) (hc : cells + 1 ≤ mc) (hs : slots + 6 ≤ ms) :
    W p l e R s m args below meth c H locs cells slots (vx_MQ below Qc XC args s mc ms free) (F0 m pc ls rest) := by
  intro T hT X
  have htr : e.platform.stackTraces = false := (show e.platform.stackTraces = l.stackTraces by rw [X.admits.platform]).trans hl
  have Y := vx_rebase X (R' := { frames := R.frames, locals := R.locals, cells := 1, slots := 6 }) (Nat.le_refl _) (Nat.le_refl _) hRcells hRslots
  obtain ⟨s', hA⟩ : ∃ z, z = (T.setVm s.vm).setFrames (.invoking m args :: below) := ⟨_, rfl⟩
  rw [← hA] at Y
  have hvm : s'.vm = s.vm := by rw [hA]; rfl
  have hhp : s'.heap = H := by rw [hA]; exact hT
  have hW0 : s.WarmedH s'.vm := by rw [hvm]; exact State.WarmedH.refl s
  have hat' : ∀ w ∈ vx_atS own ic cls names, w.before args s' = true := fun w hw => vx_ot_at hW0 hvm.symm (hgood w (List.mem_cons_of_mem _ (List.mem_cons_of_mem _ hw))) (hat w hw)
  have hk' : (Cond.classLink own ik cls).before args s' = true := vx_ot_at hW0 hvm.symm (hgood _ List.mem_cons_self) hk
  have hini' : (Cond.initialized cls).before args s' = true := vx_ot_at hW0 hvm.symm (hgood _ (List.mem_cons_of_mem _ List.mem_cons_self)) hini
  have hU' : vx_Zq Bundle.tN "UNASSIGNED_STACK" Bundle.steD A s' s'.heap := by rw [hhp]; exact vx_Zq.moved hW0.alike (hU.kept hS.2.1)
  have hN' : vx_Zq Bundle.tN "SUPPRESSED_SENTINEL" Bundle.listD A s' s'.heap := by rw [hhp]; exact vx_Zq.moved hW0.alike (hN.kept hS.2.1)
  have h : ∀ w ∈ Bundle.ownAtoms own ic cls names, w.before args s' = true := vx_own hat' (vx_isRefq hU'.1) (vx_isRefq hN'.1) hU'.2.word hN'.2.word
  have hown' : s'.vm.findClass own = some m.cls := by rw [hvm]; exact hown
  have hins : (Cond.instantiable cls 6).before args s' = true := h _ (by simp [Bundle.ownAtoms])
  obtain ⟨vm₁, cX, kX, hfX, hkX, -, -, X₁, st1⟩ := Y.newCold hexec (own := own) (C := cls) (index := ik) (n := 6) hown' hk' hins hini'
    (g := F0 m pc ls rest) rfl (by rw [hb]; exact d0) (Nat.le_refl _) (Nat.le_refl _)
  generalize hT1 : (T.setVm vm₁).pushCell { cls := cX, slots := kX.instanceTypes.map defaultValue, vm := .none } = T1 at X₁ st1
  have hcat : (Value.ref T.heap.size).category = 1 := rfl
  have hcellA : T1.heap[T.heap.size]? = some (freshCell cX kX) := by rw [← hT1]; exact State.heap_pushCell_size _ _
  have d3' : decode c.code (pc + 3) = .ok (.dup, 1) := by rw [hb]; exact d3
  have d4' : decode c.code (pc + 4) = .ok (.ldc is, 2) := by rw [hb]; exact d4
  have hstr' : vk_R own is text sa s' := vk_R.warm hW0 hstr
  obtain ⟨U, hsteps, hrun, hend, hW, hsame, ce, hce, hO⟩ := X₁.ctorThrowS hexec htr (own := own) (cls := cls) (names := names) (ic := ic) hown' hcls hnames h (fun x hx => nomatch hx) hfX hkX hcellA (by rw [hhp, hT]; exact Nat.le_refl _) (msg := .ref sa) rfl
    (g := { method := m, pc := pc + 6, locals := ls, stack := .ref sa :: .ref T.heap.size :: .ref T.heap.size :: rest, locked := none }) rfl hsize rfl rfl (rest := rest) rfl
    (by rw [hb]; exact d6) (by rw [hb]; exact d9) hout hRframes (by simp only [List.map_cons, List.sum_cons, hcat]; omega) hlocks
  obtain ⟨f1, f2⟩ := vx_frame hsame
  rw [hhp] at f1 f2
  have hWs : s.WarmedH U.vm := State.WarmedH.trans hW0 hW
  have hcl : s.vm.findClass cls = some ce.cls := by
    have h9 := hO.cls
    rw [hvm] at h9
    exact h9
  have hall : s.sameButNew ({ U with vm := s.vm } : State) locs mc ms := by
    subst hA
    obtain ⟨e1, e2⟩ := hsame
    rw [State.setFrames_setFrames] at e1
    have h2 : (T.setVm s.vm).sameButNew ({ U with vm := s.vm } : State) [] (0 + 1) (0 + 6) := ⟨e1, e2⟩
    have h3 := X.same.trans h2
    rw [List.append_nil] at h3
    exact h3.mono hc hs
  refine ⟨U, ?_, .threw T.heap.size, hrun, hend, Or.inr ⟨T.heap.size, rfl, cls, ce, locs, hx U hWs.alike f1 (fun q hq => f2 q hq (fun z hz => nomatch hz)), hce, hO.vm, hcl, hWs, hall, hf⟩⟩
  refine st1 _ ?_
  show Steps p.tables e below (T1.setTop { method := m, pc := pc + 3, locals := ls, stack := .ref T.heap.size :: rest, locked := none }) _
  jvm_step X₁.here [X₁.here.top, hexec, d3', Value.category]
  exact X₁.ldcString hexec (own := own) (text := text) (index := is) (a := sa) hown' hstr'.1 hstr'.2
    (g := { method := m, pc := pc + 4, locals := ls, stack := .ref T.heap.size :: .ref T.heap.size :: rest, locked := none }) rfl d4' _ hsteps
/-- 'throw new E("text")', the text by a wide index -/
theorem vx_throwSW {cc : ByteArray} {pc : Nat} (hexec : p.tables.exec = Jvm.exec) (hb : c.code = cc) (hl : l.stackTraces = false) {own cls text : String} {names : List String} {ik is ic mc ms sa : Nat} {A : Nat → Prop}
    (hown : s.vm.findClass own = some m.cls) (hcls : Bundle.fit cls = true) (hnames : ∀ n ∈ names, Bundle.fit n = true)
    (hk : (Cond.classLink own ik cls).before args s = true) (hini : (Cond.initialized cls).before args s = true) (hstr : vk_R own is text sa s) (hat : ∀ w ∈ vx_atS own ic cls names, w.before args s = true)
    (hgood : ∀ w ∈ Cond.classLink own ik cls :: Cond.initialized cls :: vx_atS own ic cls names, vx_ot w = true)
    (hU : vx_Zq Bundle.tN "UNASSIGNED_STACK" Bundle.steD A s s.heap) (hN : vx_Zq Bundle.tN "SUPPRESSED_SENTINEL" Bundle.listD A s s.heap) (hS : va_S A s.heap H locs) (hsize : ls.size = c.maxLocals)
    (d0 : decode cc pc = .ok (.new ik, 3)) (d3 : decode cc (pc + 3) = .ok (.dup, 1)) (d4 : decode cc (pc + 4) = .ok (.ldc_w is, 3)) (d7 : decode cc (pc + 7) = .ok (.invokespecial ic, 3)) (d10 : decode cc (pc + 10) = .ok (.athrow, 1))
    (hout : ∀ x ∈ c.exceptionTable.toList, covers x (pc + 10) = false)
    (hRframes : names.length + 3 < R.frames) (hRlocals : (rest.map fun v => v.category).sum + (13 * (names.length + 1) + 43) ≤ R.locals) (hRcells : cells + 1 ≤ R.cells) (hRslots : slots + 6 ≤ R.slots) (hlocks : meth.locks = false)
    (hx : ∀ t : State, s.vm.Alike t.vm → H.size ≤ t.heap.size → (∀ q : Nat, q < H.size → t.heap[q]? = H[q]?) → XC cls s t)
    (hf : ∀ z ∈ locs, free z.base) (hc : cells + 1 ≤ mc) (hs : slots + 6 ≤ ms) :
    W p l e R s m args below meth c H locs cells slots (vx_MQ below Qc XC args s mc ms free) (F0 m pc ls rest) := by
  intro T hT X
  have htr : e.platform.stackTraces = false := (show e.platform.stackTraces = l.stackTraces by rw [X.admits.platform]).trans hl
  have Y := vx_rebase X (R' := { frames := R.frames, locals := R.locals, cells := 1, slots := 6 }) (Nat.le_refl _) (Nat.le_refl _) hRcells hRslots
  obtain ⟨s', hA⟩ : ∃ z, z = (T.setVm s.vm).setFrames (.invoking m args :: below) := ⟨_, rfl⟩
  rw [← hA] at Y
  have hvm : s'.vm = s.vm := by rw [hA]; rfl
  have hhp : s'.heap = H := by rw [hA]; exact hT
  have hW0 : s.WarmedH s'.vm := by rw [hvm]; exact State.WarmedH.refl s
  have hat' : ∀ w ∈ vx_atS own ic cls names, w.before args s' = true := fun w hw => vx_ot_at hW0 hvm.symm (hgood w (List.mem_cons_of_mem _ (List.mem_cons_of_mem _ hw))) (hat w hw)
  have hk' : (Cond.classLink own ik cls).before args s' = true := vx_ot_at hW0 hvm.symm (hgood _ List.mem_cons_self) hk
  have hini' : (Cond.initialized cls).before args s' = true := vx_ot_at hW0 hvm.symm (hgood _ (List.mem_cons_of_mem _ List.mem_cons_self)) hini
  have hU' : vx_Zq Bundle.tN "UNASSIGNED_STACK" Bundle.steD A s' s'.heap := by rw [hhp]; exact vx_Zq.moved hW0.alike (hU.kept hS.2.1)
  have hN' : vx_Zq Bundle.tN "SUPPRESSED_SENTINEL" Bundle.listD A s' s'.heap := by rw [hhp]; exact vx_Zq.moved hW0.alike (hN.kept hS.2.1)
  have h : ∀ w ∈ Bundle.ownAtoms own ic cls names, w.before args s' = true := vx_own hat' (vx_isRefq hU'.1) (vx_isRefq hN'.1) hU'.2.word hN'.2.word
  have hown' : s'.vm.findClass own = some m.cls := by rw [hvm]; exact hown
  have hins : (Cond.instantiable cls 6).before args s' = true := h _ (by simp [Bundle.ownAtoms])
  obtain ⟨vm₁, cX, kX, hfX, hkX, -, -, X₁, st1⟩ := Y.newCold hexec (own := own) (C := cls) (index := ik) (n := 6) hown' hk' hins hini'
    (g := F0 m pc ls rest) rfl (by rw [hb]; exact d0) (Nat.le_refl _) (Nat.le_refl _)
  generalize hT1 : (T.setVm vm₁).pushCell { cls := cX, slots := kX.instanceTypes.map defaultValue, vm := .none } = T1 at X₁ st1
  have hcat : (Value.ref T.heap.size).category = 1 := rfl
  have hcellA : T1.heap[T.heap.size]? = some (freshCell cX kX) := by rw [← hT1]; exact State.heap_pushCell_size _ _
  have d3' : decode c.code (pc + 3) = .ok (.dup, 1) := by rw [hb]; exact d3
  have d4' : decode c.code (pc + 4) = .ok (.ldc_w is, 3) := by rw [hb]; exact d4
  have hstr' : vk_R own is text sa s' := vk_R.warm hW0 hstr
  obtain ⟨U, hsteps, hrun, hend, hW, hsame, ce, hce, hO⟩ := X₁.ctorThrowS hexec htr (own := own) (cls := cls) (names := names) (ic := ic) hown' hcls hnames h (fun x hx => nomatch hx) hfX hkX hcellA (by rw [hhp, hT]; exact Nat.le_refl _) (msg := .ref sa) rfl
    (g := { method := m, pc := pc + 7, locals := ls, stack := .ref sa :: .ref T.heap.size :: .ref T.heap.size :: rest, locked := none }) rfl hsize rfl rfl (rest := rest) rfl
    (by rw [hb]; exact d7) (by rw [hb]; exact d10) hout hRframes (by simp only [List.map_cons, List.sum_cons, hcat]; omega) hlocks
  obtain ⟨f1, f2⟩ := vx_frame hsame
  rw [hhp] at f1 f2
  have hWs : s.WarmedH U.vm := State.WarmedH.trans hW0 hW
  have hcl : s.vm.findClass cls = some ce.cls := by
    have h9 := hO.cls
    rw [hvm] at h9
    exact h9
  have hall : s.sameButNew ({ U with vm := s.vm } : State) locs mc ms := by
    subst hA
    obtain ⟨e1, e2⟩ := hsame
    rw [State.setFrames_setFrames] at e1
    have h2 : (T.setVm s.vm).sameButNew ({ U with vm := s.vm } : State) [] (0 + 1) (0 + 6) := ⟨e1, e2⟩
    have h3 := X.same.trans h2
    rw [List.append_nil] at h3
    exact h3.mono hc hs
  refine ⟨U, ?_, .threw T.heap.size, hrun, hend, Or.inr ⟨T.heap.size, rfl, cls, ce, locs, hx U hWs.alike f1 (fun q hq => f2 q hq (fun z hz => nomatch hz)), hce, hO.vm, hcl, hWs, hall, hf⟩⟩
  refine st1 _ ?_
  show Steps p.tables e below (T1.setTop { method := m, pc := pc + 3, locals := ls, stack := .ref T.heap.size :: rest, locked := none }) _
  jvm_step X₁.here [X₁.here.top, hexec, d3', Value.category]
  exact X₁.ldcStringW hexec (own := own) (text := text) (index := is) (a := sa) hown' hstr'.1 hstr'.2
    (g := { method := m, pc := pc + 4, locals := ls, stack := .ref T.heap.size :: .ref T.heap.size :: rest, locked := none }) rfl d4' _ hsteps
end Ends
section Bodies
variable {l : Launch}
theorem vx_ofW {y : MethodName} {ws ws' : List Cond} {rm : Room} {Pc : Array Value → State → Prop} {Qc : Array Value → State → Outcome → State → Prop} {XC : String → State → State → Prop} {mc ms : Nat} {free : Addr → Prop} {cc : ByteArray} {maxL : Nat} {ret : Option FieldType}
    (hy : plainName y.cls = true) (hw : ws = Cond.code y cc maxL ret :: ws')
    (body : ∀ p e s m args below meth c s₁, BodyLoose p l y (headSpec ws rm) cc maxL ret e s m args below meth c s₁ → c.maxLocals = maxL → (∀ x ∈ c.exceptionTable.toList, False) → Pc args s →
      W p l e (headSpec ws rm).room s m args below meth c s.heap [] 0 0 (vx_MQ below Qc XC args s mc ms free) (entryFrame m args maxL)) : vx_Met l y ws rm Pc Qc XC mc ms free := by
  refine MetFree.of_bodyS (code := cc) (maxLocals := maxL) (ret := ret) hy ?_ ?_
  · intro args s m h hn
    obtain ⟨meth, c, h1, h2, h3, h4, h5, h6, -, -⟩ := Cond.code_spec hn (atoms_spec (ws := ws) h _ (by rw [hw]; exact List.mem_cons_self))
    exact ⟨meth, c, h1, h2, h3, h4, h5, h6⟩
  · intro p e s m args below meth c s₁ B hml hP _
    have hh0 : s₁.heap = s.heap := by rw [B.state]; rfl
    have ht : ∀ x ∈ c.exceptionTable.toList, False := by
      obtain ⟨meth9, c9, h1, h2, -, -, -, -, h7, -⟩ := Cond.code_spec B.named (atoms_spec (ws := ws) B.pre _ (by rw [hw]; exact List.mem_cons_self))
      cases Option.some.inj (h1.symm.trans B.method)
      cases Option.some.inj (h2.symm.trans (Stand.of_body B).code)
      intro x hx
      rw [Array.isEmpty_iff.mp h7] at hx
      cases hx
    obtain ⟨t, a1, o, b1, b2, b3⟩ := body p e s m args below meth c s₁ B hml ht hP s₁ hh0 (Stand.of_body B)
    exact ⟨t, o, a1, b1, b2, b3⟩
/-- the table of a body with handlers -/
theorem vx_table {p : Program} {x y : MethodName} {S : Spec} {cc bytes : ByteArray} {maxL maxL' : Nat} {ret ret' : Option FieldType} {e : Env} {s s₁ : State} {m : MethodId} {args : Array Value} {below : List Frame} {meth : Method} {c : Code} {hh : List (Nat × Nat × Nat × Nat)}
    (B : BodyLoose p l y S cc maxL ret e s m args below meth c s₁) (h : (Cond.codeWith y bytes maxL' ret' hh).before args s = true) : c.exceptionTable.toList = tableOf hh := by
  obtain ⟨m9, meth9, c9, hn9, h1, h2, -, -, h6, -⟩ := Cond.codeWith_spec h
  cases Option.some.inj (hn9.symm.trans B.named)
  cases Option.some.inj (h1.symm.trans B.method)
  cases Option.some.inj (h2.symm.trans (Stand.of_body B).code)
  rw [← h6, table_eq]
end Bodies
end VXA
/-! ===== END ===== -/
/-! ===== BEGIN a static call of a method with an exception table ===== -/
section VXS
variable {p : Program} {l : Launch} {e : Env} {R : Room} {s : State} {m : MethodId} {args : Array Value} {below : List Frame} {meth : Method} {c : Code} {T : State} {H : Heap} {locs : List Loc} {cells slots : Nat}
abbrev vx_CSW (R : Room) (s : State) (args : Array Value) (own : String) (index : Nat) (y : MethodName) (bytes : ByteArray) (maxL : Nat) (ret : Option FieldType) (hh : List (Nat × Nat × Nat × Nat)) (ws : List Cond) (rm : Room) (mc ms n : Nat) : Prop :=
  (rm.cells = mc ∧ rm.slots = ms ∧ rm.frames + 1 ≤ R.frames ∧ 8 + (maxL + 11) + rm.locals ≤ R.locals ∧ (∀ w ∈ ws, ∀ (a' : Array Value) (U : State), s.WarmedH U.vm → w.before a' U = true) ∧ Cond.codeWith y bytes maxL ret hh ∈ ws) ∧
  (Cond.codeWith y bytes maxL ret hh).before args s = true ∧ (Cond.initialized y.cls).before args s = true ∧ (y.cls ≠ "java/lang/invoke/MethodHandle" ∧ y.cls ≠ "java/lang/invoke/VarHandle") ∧
  (∀ sig, parseMethodDescriptor y.desc = some sig → n = sig.parameters.length) ∧ (Cond.methodLink own index y).before args s = true ∧ (Cond.static y).before args s = true
theorem vx_cwSW {own : String} {index maxL mc ms : Nat} {y : MethodName} {bytes : ByteArray} {ret : Option FieldType} {hh : List (Nat × Nat × Nat × Nat)} {Ts ws ws' : List Cond} {rm : Room} (n : Nat) (ht : ∀ w ∈ Ts, w.before args s = true) (hT : GoodIn Ts (va_wsS own index y ws)) (hw : ws = Cond.codeWith y bytes maxL ret hh :: ws') (hrc : rm.cells = mc) (hrs : rm.slots = ms)
    (hd : y.cls ≠ "java/lang/invoke/MethodHandle" ∧ y.cls ≠ "java/lang/invoke/VarHandle" ∧ (parseMethodDescriptor y.desc).map (fun d => d.parameters.length) = some n) (hR : rm.frames + 1 ≤ R.frames ∧ 8 + (maxL + 11) + rm.locals ≤ R.locals) :
    vx_CSW R s args own index y bytes maxL ret hh ws rm mc ms n := by
  have ok : ∀ w ∈ va_wsS own index y ws, w.before args s = true := fun w h => ht w (hT w h).1
  have hG : GoodIn Ts ws := fun w h => hT w (by unfold va_wsS; exact List.mem_append_right _ h)
  have hc : Cond.codeWith y bytes maxL ret hh ∈ ws := by rw [hw]; exact List.mem_cons_self
  refine ⟨⟨hrc, hrs, hR.1, hR.2, pay_in ht hG, hc⟩, ht _ (hG _ hc).1, ok _ (by simp [va_wsS]), ⟨hd.1, hd.2.1⟩, fun sig h => ?_, ok _ (by simp [va_wsS]), ok _ (by simp [va_wsS])⟩
  have h2 := hd.2.2
  rw [h] at h2
  exact (Option.some.inj h2).symm
theorem vx_callSW (X : Stand p l e R s m args below meth c T locs cells slots) (hexec : p.tables.exec = Jvm.exec) {own : String} {index : Nat} {y : MethodName} {bytes : ByteArray} {maxL : Nat} {ret : Option FieldType} {hh : List (Nat × Nat × Nat × Nat)}
    (hown : s.vm.findClass own = some m.cls) (hlink : (Cond.methodLink own index y).before args s = true) (hstat : (Cond.static y).before args s = true) (hinit : (Cond.initialized y.cls).before args s = true)
    (hcode : (Cond.codeWith y bytes maxL ret hh).before args s = true) (hy : y.cls ≠ "java/lang/invoke/MethodHandle" ∧ y.cls ≠ "java/lang/invoke/VarHandle")
    {W9 : Nat} {Pre : Pt → Array Value → Prop} {Post : Pt → Array Value → Option Value → Pt → Prop} (hK : Back l R p e below s args y 3 W9 Pre Post)
    {g : JFrame} (hg : g.method = m) (hsize : g.locals.size = c.maxLocals) {argsL rest : List Value} (hlen : ∀ sig, parseMethodDescriptor y.desc = some sig → argsL.length = sig.parameters.length)
    (hstack : g.stack = argsL.reverse ++ rest) (hW : 2 * g.monitorRoom + (rest.map fun v => v.category).sum ≤ W9) (hdg : decode c.code g.pc = .ok (.invokestatic index, 3))
    (hpre : ∀ vm₁, s.WarmedH vm₁ → Pre ⟨T.setVm vm₁, locs, cells, slots⟩ argsL.toArray) :
    ∃ (v : Option Value) (vm₁ : Vm) (B : Pt), s.WarmedH vm₁ ∧ Stand p l e R s m args below meth c B.U B.locs B.cells B.slots ∧ Post ⟨T.setVm vm₁, locs, cells, slots⟩ argsL.toArray v B ∧
      ∀ target, Steps p.tables e below (B.U.setTop { g with pc := g.pc + 3, stack := v.toList ++ rest }) target → Steps p.tables e below (T.setTop g) target := by
  obtain ⟨mk, methM, cM, hnamed, hmethM, -, -, -, -, -, -, hsigM⟩ := Cond.codeWith_spec hcode
  have hstatic : methM.isStatic = true := Cond.static_spec hnamed hmethM hstat
  obtain ⟨kP, hkP, -⟩ := className_of_methodNamed hnamed
  have hinitP : kP.init = .initialized := Cond.initialized_spec (findClass_of_methodNamed hnamed) hkP hinit
  obtain ⟨vm₁, X₁, hstep₁⟩ := X.invokestatic hexec hown hlink hnamed hmethM hstatic hkP hinitP hy (g := g) hg (argsL := argsL) (rest := rest) (hlen _ hsigM) hstack hdg
  obtain ⟨v, B, X', hpost, hsteps⟩ := hK m meth c ⟨T.setVm vm₁, locs, cells, slots⟩ { g with stack := rest } (.invokestatic index) mk argsL.toArray X₁ hg hsize hdg hW (X₁.named hnamed) (hpre vm₁ X₁.warmed)
  exact ⟨v, vm₁, B, X₁.warmed, X', hpost, fun target h => hstep₁ _ fun acts => by rw [doInvoke_state]; exact hsteps.trans h⟩
theorem vx_runSW {y : MethodName} {bytes cc : ByteArray} {maxL nL mc ms n index : Nat} {ret : Option FieldType} {hh : List (Nat × Nat × Nat × Nat)} {ws : List Cond} {rm : Room} {Pc : Array Value → State → Prop} {Qc : Array Value → State → Outcome → State → Prop} {free : Addr → Prop} {Ts : List Cond} {own : String} {As rest : List Value} {g : JFrame}
    (S : CallFix p m c cc nL s args Ts own) (hM : Met l y ws rm Pc Qc mc ms free) (cw : vx_CSW R s args own index y bytes maxL ret hh ws rm mc ms n) (hp : PreS s H Pc As)
    (hg : g.method = m) (hn : As.length = n) (hsize : g.locals.size = nL) (hstack : g.stack = As.reverse ++ rest) (hW : 2 * g.monitorRoom + (rest.map fun v => v.category).sum ≤ 8) (hdg : decode cc g.pc = .ok (.invokestatic index, 3)) (hf : cells + mc ≤ R.cells ∧ slots + ms ≤ R.slots) :
    va_Run p l e R s m args below meth c H locs cells slots mc ms g rest (Qc As.toArray) (free) := by
  obtain ⟨⟨hrc, hrs, hfr, hlo, hws, hcw⟩, hcode, hini, hy, hlen, hl, hstt⟩ := cw
  have hK : Back l R p e below s args y 3 8 (PreOf R mc ms Pc) (PostOf Qc mc ms free) := va_backW (hh := hh) (bytes := bytes) (maxL := maxL) (ret := ret) hM hp.1 hrc hrs hfr hlo hws hcw (fun a' U hW => word_at hW (Or.inl (by first | rfl | simp [Cond.onTables, Cond.keeps, Cond.steady])) hini)
  obtain ⟨hx, hb, hml, ho, -⟩ := S
  intro T hT X
  obtain ⟨v, vm₁, ⟨U', l2, c2, s2⟩, hW₁, X', ⟨g', mk, t, L, e1, e2, hq, h1, hL, h2, h3⟩, st⟩ := vx_callSW X hx (hh := hh) (bytes := bytes) (maxL := maxL) (ret := ret) ho hl hstt hini hcode hy hK hg (hsize.trans hml.symm) (argsL := As) (rest := rest) (fun sig h => hn.trans (hlen sig h)) hstack hW (by rw [hb]; exact hdg)
    (fun vm₁ hW₁ => ⟨hf.1, hf.2, hp.2 (T.setVm vm₁) hT hW₁⟩)
  dsimp only [Pt.U, Pt.locs, Pt.cells, Pt.slots] at X' e1 e2 h1 h2 h3 st
  subst h1; subst h2; subst h3
  exact ⟨v, (T.setVm vm₁).calling g' mk As.toArray, t, U', L, hT, X', hL, e1, e2, hq, st⟩
/-- not caught here, past rows that name other classes: it goes on to the caller -/
theorem vx_outP {p : Program} {l : Launch} {e : Env} {R : Room} {s : State} {m : MethodId} {args : Array Value} {below : List Frame} {meth : Method} {c : Code} {H : Heap} {locs : List Loc} {cells slots : Nat} {free : Addr → Prop} {ls : Array Slot} {rest : List Value} {Qc : Array Value → State → Outcome → State → Prop} {XC : String → State → State → Prop}
    {pc : Nat} {own E : String} {ce : Cell} {q : Addr} {mc ms : Nat} (hown : s.vm.findClass own = some m.cls) (hlocks : meth.locks = false)
    (hpass : ∀ z ∈ c.exceptionTable.toList, covers z pc = false ∨ (z.catchType ≠ 0 ∧ ∃ nm : String, (Cond.classLink own z.catchType nm).before args s = true ∧ va_Nc E nm s)) (hcell : H[q]? = some ce) (hv : ce.vm = .none) (hcl : s.vm.findClass E = some ce.cls)
    (hx : ∀ t : State, t.heap = H → s.vm.Alike t.vm → XC E s t) (hf : ∀ z ∈ locs, free z.base) (hc : cells ≤ mc) (hs : slots ≤ ms) :
    vx_W p l e R s m args below meth c H locs cells slots (vx_MQ below Qc XC args s mc ms free) (F0 m pc ls rest) q := by
  intro T hT X
  have hpl : e.platform.magicAccessors = ({} : Platform).magicAccessors := by rw [X.admits.platform]
  obtain ⟨vm', hW', X', st⟩ := X.outThrough hlocks q (g := F0 m pc ls rest) rfl rfl rfl (cell := ce) (by rw [hT]; exact hcell) (by rw [hv]; rfl)
    (by obtain ⟨k9, h9, -⟩ := Vm.findClass_spec hcl; exact ⟨k9, h9⟩) (fun z hz => by
      rcases hpass z hz with h | ⟨hz0, nm, hl1, hn1⟩
      · exact Or.inl h
      · obtain ⟨c6, hc6, hcl6⟩ := Cond.classLink_spec hown hl1 e.platform hpl
        obtain ⟨a8, b8, h1, h2, h3⟩ := hn1
        cases Option.some.inj (h1.symm.trans hcl)
        cases Option.some.inj (h2.symm.trans hc6)
        exact Or.inr ⟨hz0, _, hcl6, h3⟩)
  obtain ⟨g₀, hfr⟩ := X'.frames_eq
  have hcell9 : ((T.setVm vm').setFrames (.throwing q :: below)).heap[q]? = some ce := by
    show T.heap[q]? = some ce
    rw [hT]; exact hcell
  have hend : Ended ((T.setVm vm').setFrames (.throwing q :: below)) below (.threw q) := State.frames_setFrames _ (State.cur_lt_of_frames hfr)
  refine ⟨(T.setVm vm').setFrames (.throwing q :: below), ?_, .threw q, X'.here.running, hend, Or.inr ⟨q, rfl, E, ce, locs, hx _ hT (X'.ends _).1.alike, hcell9, hv, hcl, (X'.ends _).1, (X'.ends _).2.mono hc hs, hf⟩⟩
  rw [X.pushThrowing_eq]
  exact st
/-- a thing of a world lies in the heap -/
theorem vx_lt {D : va_G} {cl : List vw_C} {ws : va_W} {H1 : Heap} (h : va_P D cl ws H1) {k : Nat} {q : Nat × va_E} (hk : ws[k]? = some q) : q.1 < H1.size := (h k q hk).lt
end VXS
/-! ===== END ===== -/
/-! ===== BEGIN methods with a table of their own: called by a name, returning or throwing ===== -/
section VXH
/-! vx_backW, vx_callVX, vx_callSX, vx_callVW, vx_runVW, vx_runVX, vx_runSX, vx_ofWH follow the same proofs as their sisters above (Free/Laws.lean, Shelf42/LK1.lean); vx_outP calls Shelf42/NT130.lean (outThrough). -/
section
variable {l : Launch} {R : Room} {p : Program} {e : Env} {below : List Frame} {s : State} {sargs : Array Value} {y : MethodName} {len W9 : Nat}
theorem vx_backW {ws : List Cond} {rm : Room} {Pc : Array Value → State → Prop} {Qc : Array Value → State → Outcome → State → Prop} {XC : String → State → State → Prop} {mc ms : Nat} {free : Addr → Prop} {bytes : ByteArray} {maxL : Nat} {ret : Option FieldType} {hh : List (Nat × Nat × Nat × Nat)}
    (hM : vx_Met l y ws rm Pc Qc XC mc ms free) (hblind : FrameBlind Pc) (hrc : rm.cells = mc) (hrs : rm.slots = ms)
    (hframes : rm.frames + 1 ≤ R.frames) (hlocals : W9 + (maxL + 11) + rm.locals ≤ R.locals)
    (hws : ∀ w ∈ ws, ∀ a' U, s.WarmedH U.vm → w.before a' U = true) (hcode : Cond.codeWith y bytes maxL ret hh ∈ ws) (hinit : ∀ a' U, s.WarmedH U.vm → (Cond.initialized y.cls).before a' U = true) :
    vx_Back l R p e below s sargs y len W9 (PreOf R mc ms Pc) (PostOf Qc mc ms free) (vx_Post XC mc ms free) := by
  intro m meth c A g ig mk a X hg hsize hdg hW hn hp
  have h1 : (headSpec ws rm).pre.before a A.U = true := atoms_intro fun w hw => hws w hw _ _ X.warmed
  have h2 : (Cond.codeWith y bytes maxL ret hh).before a A.U = true := hws _ hcode _ _ X.warmed
  have h3 : (Cond.initialized y.cls).before a A.U = true := hinit _ _ X.warmed
  have h4 : A.cells + (headSpec ws rm).room.cells ≤ R.cells := by rw [show (headSpec ws rm).room.cells = mc from hrc]; exact hp.1
  have h5 : A.slots + (headSpec ws rm).room.slots ≤ R.slots := by rw [show (headSpec ws rm).room.slots = ms from hrs]; exact hp.2.1
  have hPc : Pc a (A.U.calling g mk a) := hblind _ _ _ _ hp.2.2
  obtain ⟨U, Ls, c0, s0⟩ := A
  dsimp only [Pt.U, Pt.locs, Pt.cells, Pt.slots] at h1 h2 h3 h4 h5 X hn hPc ⊢
  obtain ⟨m9, methY, cY, hn9, hmY, hcY, -, hlY, -⟩ := Cond.codeWith_spec h2
  cases Option.some.inj (hn9.symm.trans hn)
  obtain ⟨kY, hkY, -⟩ := className_of_methodNamed hn
  have hinitY : kY.init = .initialized := Cond.initialized_spec (findClass_of_methodNamed hn) hkY h3
  have h : At U g.method c below := by rw [hg]; exact X.here
  have hlocals9 : W9 + (maxL + 11) + (headSpec ws rm).room.locals ≤ R.locals := hlocals
  have happ : (headSpec ws rm).appliesLoose y e.platform (U.calling g mk a) = true :=
    Spec.appliesLoose_calling (g := g) h hdg hn hkY hinitY
      (X.room_calling (g := g) (R' := (headSpec ws rm).room) hsize hmY hcY hframes (by rw [hlY]; omega) h4 h5) h1
  obtain ⟨mid, hmid⟩ := h.above
  have hfr : (U.setTop g).frames = (.java g :: mid) ++ below := by rw [State.frames_setTop' g h.top, hmid]; rfl
  obtain ⟨o, s₂, hsteps, -, hend, hq⟩ := Steps.callFree hM p X.admits X.cas X.clock (acts := []) hfr happ hPc trivial
  have hq' : vx_Q Qc XC mc ms free a (U.calling g mk a) o s₂ := hq
  rw [State.frames_setTop' g h.top] at hend
  obtain ⟨g₀, hg0⟩ := Option.isSome_iff_exists.mp h.top
  obtain ⟨r, hr⟩ := State.topJava?_eq_some.mp hg0
  have hr' : (({ U with heap := s₂.heap, slotsUsed := s₂.slotsUsed } : State).setVm s₂.vm).frames = .java g₀ :: r := hr
  rcases hq' with ⟨hqc, L, hfe, hL⟩ | ⟨q, rfl, E, ce, L, hx, hce, hcv, hcl, hW₂, hsm, hL⟩
  · obtain ⟨⟨v, rfl⟩, hW₂, e2, q2, q3, q4, q5, q6⟩ := id hfe
    have e3 : s₂ = ({ (U.calling g mk a).setFrames s₂.frames with heap := s₂.heap, slotsUsed := s₂.slotsUsed } : State).setVm s₂.vm := by
      have : s₂ = ({ s₂ with vm := (U.calling g mk a).vm } : State).setVm s₂.vm := rfl
      rw [e2] at this
      exact this
    obtain ⟨c₂, i₂, len₂, hc₂, hd₂, hf₂⟩ := hend
    have hW' : U.WarmedH s₂.vm := hW₂
    have hcc : c₂ = c := by
      have h1 : s₂.code? g.method = U.code? g.method := by
        rw [State.code?_eq, State.code?_eq, hW'.alike.method?]
      exact Option.some.inj (hc₂.symm.trans (h1.trans h.code))
    subst hcc
    have hlen : len₂ = len := by rw [hdg] at hd₂; cases hd₂; rfl
    subst hlen
    have hs₂ : s₂ = (({ U with heap := s₂.heap, slotsUsed := s₂.slotsUsed } : State).setVm s₂.vm).setTop { g with pc := g.pc + len₂, stack := v.toList ++ g.stack } := by
      refine e3.trans ?_
      rw [hf₂, State.calling_eq h.top, State.setFrames_setFrames, State.setTop_of_frames _ hr', hr]
      rfl
    have hsame : U.sameButNew ({ U with heap := s₂.heap, slotsUsed := s₂.slotsUsed } : State) L mc ms := by
      refine ⟨?_, q2, q3, q4, q5, q6⟩
      obtain ⟨t, ht, -⟩ := State.frames_cons hr
      show ({ U with heap := s₂.heap, slotsUsed := s₂.slotsUsed } : State) = { U.setFrames U.frames with heap := s₂.heap, slotsUsed := s₂.slotsUsed }
      rw [State.setFrames_self ht]
    subst hg
    refine Or.inl ⟨v, ⟨(({ U with heap := s₂.heap, slotsUsed := s₂.slotsUsed } : State).setVm s₂.vm), Ls ++ L, c0 + mc, s0 + ms⟩,
      ⟨X.admits, X.cas, X.clock, X.frames, X.room, X.hears, X.method, X.code, (X.here.setHeapUsed s₂.heap s₂.slotsUsed).setVm hW'.alike, X.tail, State.WarmedH.trans X.warmed hW', X.limits, X.bytes, X.same.trans (hsame.setVm s.vm)⟩,
      ⟨g, mk, s₂, L, rfl, rfl, hqc, rfl, hL, rfl, rfl⟩, ?_⟩
    show Steps p.tables e below _ ((({ U with heap := s₂.heap, slotsUsed := s₂.slotsUsed } : State).setVm s₂.vm).setTop { g with pc := g.pc + len₂, stack := v.toList ++ g.stack })
    rw [← hs₂]
    exact hsteps
  · obtain ⟨e2, q2, q3, q4, q5, q6⟩ := id hsm
    have e3 : s₂ = ({ (U.calling g mk a).setFrames s₂.frames with heap := s₂.heap, slotsUsed := s₂.slotsUsed } : State).setVm s₂.vm := by
      have : s₂ = ({ s₂ with vm := (U.calling g mk a).vm } : State).setVm s₂.vm := rfl
      rw [e2] at this
      exact this
    have hf₂ : s₂.frames = .throwing q :: .java g :: U.frames.tail := hend
    have hW' : U.WarmedH s₂.vm := hW₂
    have hs₂ : s₂ = ((({ U with heap := s₂.heap, slotsUsed := s₂.slotsUsed } : State).setVm s₂.vm).setTop g).pushFrame (.throwing q) := by
      refine e3.trans ?_
      rw [hf₂, State.calling_eq h.top, State.setFrames_setFrames, State.pushFrame, State.frames_setTop _ hr', State.setTop_of_frames _ hr', State.setFrames_setFrames, hr]
      rfl
    have hsame : U.sameButNew ({ U with heap := s₂.heap, slotsUsed := s₂.slotsUsed } : State) L mc ms := by
      refine ⟨?_, q2, q3, q4, q5, q6⟩
      obtain ⟨t, ht, -⟩ := State.frames_cons hr
      show ({ U with heap := s₂.heap, slotsUsed := s₂.slotsUsed } : State) = { U.setFrames U.frames with heap := s₂.heap, slotsUsed := s₂.slotsUsed }
      rw [State.setFrames_self ht]
    subst hg
    refine Or.inr ⟨q, ⟨(({ U with heap := s₂.heap, slotsUsed := s₂.slotsUsed } : State).setVm s₂.vm), Ls ++ L, c0 + mc, s0 + ms⟩,
      ⟨X.admits, X.cas, X.clock, X.frames, X.room, X.hears, X.method, X.code, (X.here.setHeapUsed s₂.heap s₂.slotsUsed).setVm hW'.alike, X.tail, State.WarmedH.trans X.warmed hW', X.limits, X.bytes, X.same.trans (hsame.setVm s.vm)⟩,
      ⟨g, mk, s₂, L, E, ce, rfl, rfl, hx, hce, hcv, hcl, rfl, hL, rfl, rfl⟩, ?_⟩
    show Steps p.tables e below _ (((({ U with heap := s₂.heap, slotsUsed := s₂.slotsUsed } : State).setVm s₂.vm).setTop g).pushFrame (.throwing q))
    rw [← hs₂]
    exact hsteps
end
variable {p : Program} {l : Launch} {e : Env} {R : Room} {s : State} {m : MethodId} {args : Array Value} {below : List Frame} {meth : Method} {c : Code} {T : State} {H : Heap} {locs : List Loc} {cells slots : Nat}
theorem vx_callVX (X : Stand p l e R s m args below meth c T locs cells slots) (hexec : p.tables.exec = Jvm.exec) {own C : String} {index : Nat} {y : MethodName} {bytes : ByteArray} {maxL : Nat} {ret : Option FieldType} {hh : List (Nat × Nat × Nat × Nat)}
    (hown : s.vm.findClass own = some m.cls) (hlink : (Cond.methodLink own index y).before args s = true) (hinst : (Cond.instanceMethod y).before args s = true) (hsel : (Cond.selects C y y).before args s = true)
    (hcode : (Cond.codeWith y bytes maxL ret hh).before args s = true) (hy : y.cls ≠ "java/lang/invoke/MethodHandle" ∧ y.cls ≠ "java/lang/invoke/VarHandle")
    {W9 : Nat} {Pre : Pt → Array Value → Prop} {Post : Pt → Array Value → Option Value → Pt → Prop} {PostX : Pt → Array Value → Addr → Pt → Prop} (hK : vx_Back l R p e below s args y 3 W9 Pre Post PostX)
    {b : Addr} {cellB : Cell} (hcell : T.heap[b]? = some cellB) (hobj : cellB.vm.isStatics = false) (hcls : s.vm.findClass C = some cellB.cls)
    {g : JFrame} (hg : g.method = m) (hsize : g.locals.size = c.maxLocals) {argsL rest : List Value} (hlen : ∀ sig, parseMethodDescriptor y.desc = some sig → argsL.length = sig.parameters.length)
    (hstack : g.stack = argsL.reverse ++ .ref b :: rest) (hW : 2 * g.monitorRoom + (rest.map fun v => v.category).sum ≤ W9) (hdg : decode c.code g.pc = .ok (.invokevirtual index, 3))
    (hpre : ∀ vm₁, s.WarmedH vm₁ → Pre ⟨T.setVm vm₁, locs, cells, slots⟩ (Value.ref b :: argsL).toArray) :
    (∃ (v : Option Value) (vm₁ : Vm) (B : Pt), s.WarmedH vm₁ ∧ Stand p l e R s m args below meth c B.U B.locs B.cells B.slots ∧ Post ⟨T.setVm vm₁, locs, cells, slots⟩ (Value.ref b :: argsL).toArray v B ∧
      ∀ target, Steps p.tables e below (B.U.setTop { g with pc := g.pc + 3, stack := v.toList ++ rest }) target → Steps p.tables e below (T.setTop g) target) ∨
    (∃ (q : Addr) (vm₁ : Vm) (B : Pt), s.WarmedH vm₁ ∧ Stand p l e R s m args below meth c B.U B.locs B.cells B.slots ∧ PostX ⟨T.setVm vm₁, locs, cells, slots⟩ (Value.ref b :: argsL).toArray q B ∧
      Steps p.tables e below (T.setTop g) ((B.U.setTop { g with stack := rest }).pushFrame (.throwing q))) := by
  obtain ⟨mk, methM, hnamed, hmethM, hstM, habM⟩ := Cond.instanceMethod_spec hinst
  obtain ⟨m8, methM', cM, hn8, hmethM', -, -, -, -, -, -, hsigM⟩ := Cond.codeWith_spec hcode
  cases Option.some.inj (hn8.symm.trans hnamed)
  cases hmethM.symm.trans hmethM'
  obtain ⟨c2, r2, m2, q1, q2, q3, q4, kP, hkP, hkPi⟩ := Cond.selects_spec hsel
  cases hcls.symm.trans q1
  cases (State.methodFound?_of_named hnamed hy).symm.trans q2
  cases hnamed.symm.trans q3
  have hselP : selectMethod e.platform s.vm cellB.cls mk = .method mk := by rw [Launch.admits_selectMethod X.admits]; exact q4
  obtain ⟨vm₁, X₁, hstep₁⟩ := X.invokevirtual hexec hown hlink hnamed hmethM hstM hkP hkPi hy (a := b) (cell := cellB) hcell
    (fun z h => by rw [h] at hobj; cases hobj) hselP hmethM habM hkP hkPi (g := g) hg (argsL := argsL) (rest := rest) (hlen _ hsigM) hstack hdg
  rcases hK m meth c ⟨T.setVm vm₁, locs, cells, slots⟩ { g with stack := rest } (.invokevirtual index) mk (Value.ref b :: argsL).toArray X₁ hg hsize hdg hW (X₁.named hnamed) (hpre vm₁ X₁.warmed) with ⟨v, B, X', hpost, hsteps⟩ | ⟨q, B, X', hpost, hsteps⟩
  · exact Or.inl ⟨v, vm₁, B, X₁.warmed, X', hpost, fun target h => hstep₁ _ fun acts => by rw [doInvoke_state]; exact hsteps.trans h⟩
  · exact Or.inr ⟨q, vm₁, B, X₁.warmed, X', hpost, hstep₁ _ fun acts => by rw [doInvoke_state]; exact hsteps⟩
theorem vx_callSX (X : Stand p l e R s m args below meth c T locs cells slots) (hexec : p.tables.exec = Jvm.exec) {own : String} {index : Nat} {y : MethodName} {bytes : ByteArray} {maxL : Nat} {ret : Option FieldType} {hh : List (Nat × Nat × Nat × Nat)}
    (hown : s.vm.findClass own = some m.cls) (hlink : (Cond.methodLink own index y).before args s = true) (hstat : (Cond.static y).before args s = true) (hinit : (Cond.initialized y.cls).before args s = true)
    (hcode : (Cond.codeWith y bytes maxL ret hh).before args s = true) (hy : y.cls ≠ "java/lang/invoke/MethodHandle" ∧ y.cls ≠ "java/lang/invoke/VarHandle")
    {W9 : Nat} {Pre : Pt → Array Value → Prop} {Post : Pt → Array Value → Option Value → Pt → Prop} {PostX : Pt → Array Value → Addr → Pt → Prop} (hK : vx_Back l R p e below s args y 3 W9 Pre Post PostX)
    {g : JFrame} (hg : g.method = m) (hsize : g.locals.size = c.maxLocals) {argsL rest : List Value} (hlen : ∀ sig, parseMethodDescriptor y.desc = some sig → argsL.length = sig.parameters.length)
    (hstack : g.stack = argsL.reverse ++ rest) (hW : 2 * g.monitorRoom + (rest.map fun v => v.category).sum ≤ W9) (hdg : decode c.code g.pc = .ok (.invokestatic index, 3))
    (hpre : ∀ vm₁, s.WarmedH vm₁ → Pre ⟨T.setVm vm₁, locs, cells, slots⟩ argsL.toArray) :
    (∃ (v : Option Value) (vm₁ : Vm) (B : Pt), s.WarmedH vm₁ ∧ Stand p l e R s m args below meth c B.U B.locs B.cells B.slots ∧ Post ⟨T.setVm vm₁, locs, cells, slots⟩ argsL.toArray v B ∧
      ∀ target, Steps p.tables e below (B.U.setTop { g with pc := g.pc + 3, stack := v.toList ++ rest }) target → Steps p.tables e below (T.setTop g) target) ∨
    (∃ (q : Addr) (vm₁ : Vm) (B : Pt), s.WarmedH vm₁ ∧ Stand p l e R s m args below meth c B.U B.locs B.cells B.slots ∧ PostX ⟨T.setVm vm₁, locs, cells, slots⟩ argsL.toArray q B ∧
      Steps p.tables e below (T.setTop g) ((B.U.setTop { g with stack := rest }).pushFrame (.throwing q))) := by
  obtain ⟨mk, methM, cM, hnamed, hmethM, -, -, -, -, -, -, hsigM⟩ := Cond.codeWith_spec hcode
  have hstatic : methM.isStatic = true := Cond.static_spec hnamed hmethM hstat
  obtain ⟨kP, hkP, -⟩ := className_of_methodNamed hnamed
  have hinitP : kP.init = .initialized := Cond.initialized_spec (findClass_of_methodNamed hnamed) hkP hinit
  obtain ⟨vm₁, X₁, hstep₁⟩ := X.invokestatic hexec hown hlink hnamed hmethM hstatic hkP hinitP hy (g := g) hg (argsL := argsL) (rest := rest) (hlen _ hsigM) hstack hdg
  rcases hK m meth c ⟨T.setVm vm₁, locs, cells, slots⟩ { g with stack := rest } (.invokestatic index) mk argsL.toArray X₁ hg hsize hdg hW (X₁.named hnamed) (hpre vm₁ X₁.warmed) with ⟨v, B, X', hpost, hsteps⟩ | ⟨q, B, X', hpost, hsteps⟩
  · exact Or.inl ⟨v, vm₁, B, X₁.warmed, X', hpost, fun target h => hstep₁ _ fun acts => by rw [doInvoke_state]; exact hsteps.trans h⟩
  · exact Or.inr ⟨q, vm₁, B, X₁.warmed, X', hpost, hstep₁ _ fun acts => by rw [doInvoke_state]; exact hsteps⟩
theorem vx_callVW (X : Stand p l e R s m args below meth c T locs cells slots) (hexec : p.tables.exec = Jvm.exec) {own C : String} {index : Nat} {y : MethodName} {bytes : ByteArray} {maxL : Nat} {ret : Option FieldType} {hh : List (Nat × Nat × Nat × Nat)}
    (hown : s.vm.findClass own = some m.cls) (hlink : (Cond.methodLink own index y).before args s = true) (hinst : (Cond.instanceMethod y).before args s = true) (hsel : (Cond.selects C y y).before args s = true)
    (hcode : (Cond.codeWith y bytes maxL ret hh).before args s = true) (hy : y.cls ≠ "java/lang/invoke/MethodHandle" ∧ y.cls ≠ "java/lang/invoke/VarHandle")
    {W9 : Nat} {Pre : Pt → Array Value → Prop} {Post : Pt → Array Value → Option Value → Pt → Prop} (hK : Back l R p e below s args y 3 W9 Pre Post)
    {b : Addr} {cellB : Cell} (hcell : T.heap[b]? = some cellB) (hobj : cellB.vm.isStatics = false) (hcls : s.vm.findClass C = some cellB.cls)
    {g : JFrame} (hg : g.method = m) (hsize : g.locals.size = c.maxLocals) {argsL rest : List Value} (hlen : ∀ sig, parseMethodDescriptor y.desc = some sig → argsL.length = sig.parameters.length)
    (hstack : g.stack = argsL.reverse ++ .ref b :: rest) (hW : 2 * g.monitorRoom + (rest.map fun v => v.category).sum ≤ W9) (hdg : decode c.code g.pc = .ok (.invokevirtual index, 3))
    (hpre : ∀ vm₁, s.WarmedH vm₁ → Pre ⟨T.setVm vm₁, locs, cells, slots⟩ (Value.ref b :: argsL).toArray) :
    ∃ (v : Option Value) (vm₁ : Vm) (B : Pt), s.WarmedH vm₁ ∧ Stand p l e R s m args below meth c B.U B.locs B.cells B.slots ∧ Post ⟨T.setVm vm₁, locs, cells, slots⟩ (Value.ref b :: argsL).toArray v B ∧
      ∀ target, Steps p.tables e below (B.U.setTop { g with pc := g.pc + 3, stack := v.toList ++ rest }) target → Steps p.tables e below (T.setTop g) target := by
  obtain ⟨mk, methM, hnamed, hmethM, hstM, habM⟩ := Cond.instanceMethod_spec hinst
  obtain ⟨m8, methM', cM, hn8, hmethM', -, -, -, -, -, -, hsigM⟩ := Cond.codeWith_spec hcode
  cases Option.some.inj (hn8.symm.trans hnamed)
  cases hmethM.symm.trans hmethM'
  obtain ⟨c2, r2, m2, q1, q2, q3, q4, kP, hkP, hkPi⟩ := Cond.selects_spec hsel
  cases hcls.symm.trans q1
  cases (State.methodFound?_of_named hnamed hy).symm.trans q2
  cases hnamed.symm.trans q3
  have hselP : selectMethod e.platform s.vm cellB.cls mk = .method mk := by rw [Launch.admits_selectMethod X.admits]; exact q4
  obtain ⟨vm₁, X₁, hstep₁⟩ := X.invokevirtual hexec hown hlink hnamed hmethM hstM hkP hkPi hy (a := b) (cell := cellB) hcell
    (fun z h => by rw [h] at hobj; cases hobj) hselP hmethM habM hkP hkPi (g := g) hg (argsL := argsL) (rest := rest) (hlen _ hsigM) hstack hdg
  obtain ⟨v, B, X', hpost, hsteps⟩ := hK m meth c ⟨T.setVm vm₁, locs, cells, slots⟩ { g with stack := rest } (.invokevirtual index) mk (Value.ref b :: argsL).toArray X₁ hg hsize hdg hW (X₁.named hnamed) (hpre vm₁ X₁.warmed)
  exact ⟨v, vm₁, B, X₁.warmed, X', hpost, fun target h => hstep₁ _ fun acts => by rw [doInvoke_state]; exact hsteps.trans h⟩
abbrev vx_CVW (R : Room) (s : State) (args : Array Value) (own C : String) (index : Nat) (y : MethodName) (bytes : ByteArray) (maxL : Nat) (ret : Option FieldType) (hh : List (Nat × Nat × Nat × Nat)) (ws : List Cond) (rm : Room) (mc ms n : Nat) : Prop :=
  (rm.cells = mc ∧ rm.slots = ms ∧ rm.frames + 1 ≤ R.frames ∧ 8 + (maxL + 11) + rm.locals ≤ R.locals ∧ (∀ w ∈ ws, ∀ (a' : Array Value) (U : State), s.WarmedH U.vm → w.before a' U = true) ∧ Cond.codeWith y bytes maxL ret hh ∈ ws) ∧
  (Cond.codeWith y bytes maxL ret hh).before args s = true ∧ (Cond.initialized y.cls).before args s = true ∧ (y.cls ≠ "java/lang/invoke/MethodHandle" ∧ y.cls ≠ "java/lang/invoke/VarHandle") ∧
  (∀ sig, parseMethodDescriptor y.desc = some sig → n = sig.parameters.length) ∧ (Cond.methodLink own index y).before args s = true ∧ (Cond.instanceMethod y).before args s = true ∧ (Cond.selects C y y).before args s = true
theorem vx_cwVW {own C : String} {index maxL mc ms : Nat} {y : MethodName} {bytes : ByteArray} {ret : Option FieldType} {hh : List (Nat × Nat × Nat × Nat)} {Ts ws ws' : List Cond} {rm : Room} (n : Nat) (ht : ∀ w ∈ Ts, w.before args s = true) (hT : GoodIn Ts (wsV own index C y ws)) (hw : ws = Cond.codeWith y bytes maxL ret hh :: ws') (hrc : rm.cells = mc) (hrs : rm.slots = ms)
    (hd : y.cls = C ∧ y.cls ≠ "java/lang/invoke/MethodHandle" ∧ y.cls ≠ "java/lang/invoke/VarHandle" ∧ (parseMethodDescriptor y.desc).map (fun d => d.parameters.length) = some n) (hR : rm.frames + 1 ≤ R.frames ∧ 8 + (maxL + 11) + rm.locals ≤ R.locals) :
    vx_CVW R s args own C index y bytes maxL ret hh ws rm mc ms n := by
  obtain ⟨hC, hd⟩ := hd
  subst hC
  have ok : ∀ w ∈ wsV own index y.cls y ws, w.before args s = true := fun w h => ht w (hT w h).1
  have hG : GoodIn Ts ws := fun w h => hT w (by unfold wsV; exact List.mem_append_right _ h)
  have hc : Cond.codeWith y bytes maxL ret hh ∈ ws := by rw [hw]; exact List.mem_cons_self
  refine ⟨⟨hrc, hrs, hR.1, hR.2, pay_in ht hG, hc⟩, ht _ (hG _ hc).1, ok _ (by simp [wsV]), ⟨hd.1, hd.2.1⟩, fun sig h => ?_, ok _ (by simp [wsV]), ok _ (by simp [wsV]), ok _ (by simp [wsV])⟩
  have h2 := hd.2.2
  rw [h] at h2
  exact (Option.some.inj h2).symm
theorem vx_runVW {y : MethodName} {bytes cc : ByteArray} {maxL nL mc ms n index : Nat} {ret : Option FieldType} {hh : List (Nat × Nat × Nat × Nat)} {ws : List Cond} {rm : Room} {Pc : Array Value → State → Prop} {Qc : Array Value → State → Outcome → State → Prop} {free : Addr → Prop} {Ts : List Cond} {own C : String} {b : Addr} {As rest : List Value} {g : JFrame}
    (S : CallFix p m c cc nL s args Ts own) (hM : Met l y ws rm Pc Qc mc ms free) (cw : vx_CVW R s args own C index y bytes maxL ret hh ws rm mc ms n) (hp : PreV s H C b Pc As)
    (hg : g.method = m) (hn : As.length = n) (hsize : g.locals.size = nL) (hstack : g.stack = As.reverse ++ .ref b :: rest) (hW : 2 * g.monitorRoom + (rest.map fun v => v.category).sum ≤ 8) (hdg : decode cc g.pc = .ok (.invokevirtual index, 3)) (hf : cells + mc ≤ R.cells ∧ slots + ms ≤ R.slots) :
    va_Run p l e R s m args below meth c H locs cells slots mc ms g rest (Qc (Value.ref b :: As).toArray) free := by
  obtain ⟨⟨hrc, hrs, hfr, hlo, hws, hcw⟩, hcode, hini, hy, hlen, hl, hin, hse⟩ := cw
  have hK : Back l R p e below s args y 3 8 (PreOf R mc ms Pc) (PostOf Qc mc ms free) := va_backW (hh := hh) (bytes := bytes) (maxL := maxL) (ret := ret) hM hp.1 hrc hrs hfr hlo hws hcw (fun a' U hW => word_at hW (Or.inl (by first | rfl | simp [Cond.onTables, Cond.keeps, Cond.steady])) hini)
  obtain ⟨hx, hb, hml, ho, -⟩ := S
  obtain ⟨-, ⟨cellB, hcB, hoB, hclB⟩, hPc⟩ := hp
  intro T hT X
  obtain ⟨v, vm₁, ⟨U', l2, c2, s2⟩, hW₁, X', ⟨g', mk, t, L, e1, e2, hq, h1, hL, h2, h3⟩, st⟩ := vx_callVW X hx (C := C) (hh := hh) (bytes := bytes) (maxL := maxL) (ret := ret) ho hl hin hse hcode hy hK (by rw [hT]; exact hcB) hoB hclB hg (hsize.trans hml.symm) (argsL := As) (rest := rest) (fun sig h => hn.trans (hlen sig h)) hstack hW (by rw [hb]; exact hdg)
    (fun vm₁ hW₁ => ⟨hf.1, hf.2, hPc (T.setVm vm₁) hT hW₁⟩)
  dsimp only [Pt.U, Pt.locs, Pt.cells, Pt.slots] at X' e1 e2 h1 h2 h3 st
  subst h1; subst h2; subst h3
  exact ⟨v, (T.setVm vm₁).calling g' mk (Value.ref b :: As).toArray, t, U', L, hT, X', hL, e1, e2, hq, st⟩
section
variable {y : MethodName} {bytes cc : ByteArray} {maxL nL mc ms n index : Nat} {ret : Option FieldType} {ws : List Cond} {rm : Room} {Pc : Array Value → State → Prop} {Qc : Array Value → State → Outcome → State → Prop} {XC : String → State → State → Prop} {free : Addr → Prop} {Ts : List Cond} {own C : String} {b : Addr} {As rest : List Value} {g : JFrame}
theorem vx_runVX {hh : List (Nat × Nat × Nat × Nat)} (S : CallFix p m c cc nL s args Ts own) (hM : vx_Met l y ws rm Pc Qc XC mc ms free) (cw : vx_CVW R s args own C index y bytes maxL ret hh ws rm mc ms n) (hp : PreV s H C b Pc As)
    (hg : g.method = m) (hn : As.length = n) (hsize : g.locals.size = nL) (hstack : g.stack = As.reverse ++ .ref b :: rest) (hW : 2 * g.monitorRoom + (rest.map fun v => v.category).sum ≤ 8) (hdg : decode cc g.pc = .ok (.invokevirtual index, 3)) (hf : cells + mc ≤ R.cells ∧ slots + ms ≤ R.slots) :
    vx_Run p l e R s m args below meth c H locs cells slots mc ms g rest (Qc (Value.ref b :: As).toArray) XC free := by
  obtain ⟨⟨hrc, hrs, hfr, hlo, hws, hcw⟩, hcode, hini, hy, hlen, hl, hin, hse⟩ := cw
  have hK : vx_Back l R p e below s args y 3 8 (PreOf R mc ms Pc) (PostOf Qc mc ms free) (vx_Post XC mc ms free) := vx_backW (hh := hh) (bytes := bytes) (maxL := maxL) (ret := ret) hM hp.1 hrc hrs hfr hlo hws hcw (fun a' U hW => word_at hW (Or.inl (by first | rfl | simp [Cond.onTables, Cond.keeps, Cond.steady])) hini)
  obtain ⟨hx, hb, hml, ho, -⟩ := S
  obtain ⟨-, ⟨cellB, hcB, hoB, hclB⟩, hPc⟩ := hp
  intro T hT X
  rcases vx_callVX X hx (C := C) (hh := hh) (bytes := bytes) (maxL := maxL) (ret := ret) ho hl hin hse hcode hy hK (by rw [hT]; exact hcB) hoB hclB hg (hsize.trans hml.symm) (argsL := As) (rest := rest) (fun sig h => hn.trans (hlen sig h)) hstack hW (by rw [hb]; exact hdg)
    (fun vm₁ hW₁ => ⟨hf.1, hf.2, hPc (T.setVm vm₁) hT hW₁⟩) with ⟨v, vm₁, ⟨U', l2, c2, s2⟩, hW₁, X', ⟨g', mk, t, L, e1, e2, hq, h1, hL, h2, h3⟩, st⟩ | ⟨q, vm₁, ⟨U', l2, c2, s2⟩, hW₁, X', ⟨g', mk, t, L, E, ce, e1, e2, hq, hce, hcv, hcl, h1, hL, h2, h3⟩, st⟩
  · dsimp only [Pt.U, Pt.locs, Pt.cells, Pt.slots] at X' e1 e2 h1 h2 h3 st
    subst h1; subst h2; subst h3
    exact Or.inl ⟨v, (T.setVm vm₁).calling g' mk (Value.ref b :: As).toArray, t, U', L, hT, X', hL, e1, e2, hq, st⟩
  · dsimp only [Pt.U, Pt.locs, Pt.cells, Pt.slots] at X' e1 e2 h1 h2 h3 st hcl
    subst h1; subst h2; subst h3
    exact Or.inr ⟨q, (T.setVm vm₁).calling g' mk (Value.ref b :: As).toArray, t, U', L, E, ce, hT, X', hL, e1, e2, hq, hce, hcv, vx_cls hW₁ hcl, st⟩
theorem vx_runSX {hh : List (Nat × Nat × Nat × Nat)} (S : CallFix p m c cc nL s args Ts own) (hM : vx_Met l y ws rm Pc Qc XC mc ms free) (cw : vx_CSW R s args own index y bytes maxL ret hh ws rm mc ms n) (hp : PreS s H Pc As)
    (hg : g.method = m) (hn : As.length = n) (hsize : g.locals.size = nL) (hstack : g.stack = As.reverse ++ rest) (hW : 2 * g.monitorRoom + (rest.map fun v => v.category).sum ≤ 8) (hdg : decode cc g.pc = .ok (.invokestatic index, 3)) (hf : cells + mc ≤ R.cells ∧ slots + ms ≤ R.slots) :
    vx_Run p l e R s m args below meth c H locs cells slots mc ms g rest (Qc As.toArray) XC free := by
  obtain ⟨⟨hrc, hrs, hfr, hlo, hws, hcw⟩, hcode, hini, hy, hlen, hl, hstt⟩ := cw
  have hK : vx_Back l R p e below s args y 3 8 (PreOf R mc ms Pc) (PostOf Qc mc ms free) (vx_Post XC mc ms free) := vx_backW (hh := hh) (bytes := bytes) (maxL := maxL) (ret := ret) hM hp.1 hrc hrs hfr hlo hws hcw (fun a' U hW => word_at hW (Or.inl (by first | rfl | simp [Cond.onTables, Cond.keeps, Cond.steady])) hini)
  obtain ⟨hx, hb, hml, ho, -⟩ := S
  intro T hT X
  rcases vx_callSX X hx (hh := hh) (bytes := bytes) (maxL := maxL) (ret := ret) ho hl hstt hini hcode hy hK hg (hsize.trans hml.symm) (argsL := As) (rest := rest) (fun sig h => hn.trans (hlen sig h)) hstack hW (by rw [hb]; exact hdg)
    (fun vm₁ hW₁ => ⟨hf.1, hf.2, hp.2 (T.setVm vm₁) hT hW₁⟩) with ⟨v, vm₁, ⟨U', l2, c2, s2⟩, hW₁, X', ⟨g', mk, t, L, e1, e2, hq, h1, hL, h2, h3⟩, st⟩ | ⟨q, vm₁, ⟨U', l2, c2, s2⟩, hW₁, X', ⟨g', mk, t, L, E, ce, e1, e2, hq, hce, hcv, hcl, h1, hL, h2, h3⟩, st⟩
  · dsimp only [Pt.U, Pt.locs, Pt.cells, Pt.slots] at X' e1 e2 h1 h2 h3 st
    subst h1; subst h2; subst h3
    exact Or.inl ⟨v, (T.setVm vm₁).calling g' mk As.toArray, t, U', L, hT, X', hL, e1, e2, hq, st⟩
  · dsimp only [Pt.U, Pt.locs, Pt.cells, Pt.slots] at X' e1 e2 h1 h2 h3 st hcl
    subst h1; subst h2; subst h3
    exact Or.inr ⟨q, (T.setVm vm₁).calling g' mk As.toArray, t, U', L, E, ce, hT, X', hL, e1, e2, hq, hce, hcv, vx_cls hW₁ hcl, st⟩
end
end VXH
theorem vx_ofWH {l : Launch} {y : MethodName} {ws ws' : List Cond} {rm : Room} {Pc : Array Value → State → Prop} {Qc : Array Value → State → Outcome → State → Prop} {XC : String → State → State → Prop} {mc ms : Nat} {free : Addr → Prop} {cc : ByteArray} {maxL : Nat} {ret : Option FieldType} {hh : List (Nat × Nat × Nat × Nat)}
    (hy : plainName y.cls = true) (hw : ws = Cond.codeWith y cc maxL ret hh :: ws')
    (body : ∀ p e s m args below meth c s₁, BodyLoose p l y (headSpec ws rm) cc maxL ret e s m args below meth c s₁ → c.maxLocals = maxL → Pc args s →
      W p l e (headSpec ws rm).room s m args below meth c s.heap [] 0 0 (vx_MQ below Qc XC args s mc ms free) (entryFrame m args maxL)) : vx_Met l y ws rm Pc Qc XC mc ms free := by
  refine MetFree.of_bodyS (code := cc) (maxLocals := maxL) (ret := ret) hy ?_ ?_
  · intro args s m h hn
    obtain ⟨m9, meth, c, hn9, h1, h2, h3, h4, -, h5, h6, -⟩ := Cond.codeWith_spec (atoms_spec (ws := ws) h _ (by rw [hw]; exact List.mem_cons_self))
    cases hn.symm.trans hn9
    exact ⟨meth, c, h1, h2, h3, h4, h5, h6⟩
  · intro p e s m args below meth c s₁ B hml hP _
    have hh0 : s₁.heap = s.heap := by rw [B.state]; rfl
    obtain ⟨t, a1, o, b1, b2, b3⟩ := body p e s m args below meth c s₁ B hml hP s₁ hh0 (Stand.of_body B)
    exact ⟨t, o, a1, b1, b2, b3⟩
/-! ===== END ===== -/
/-! ===== BEGIN a constructor that throws (launches without stack traces) ===== -/
section VXIA
variable {p : Program} {l : Launch} {e : Env} {R : Room} {s : State} {m : MethodId} {args : Array Value} {below : List Frame} {meth : Method} {c : Code} {T : State} {locs : List Loc} {cells slots : Nat}
theorem vx_callI (X : Stand p l e R s m args below meth c T locs cells slots) (hexec : p.tables.exec = Jvm.exec) {own : String} {index : Nat} {y : MethodName} {bytes : ByteArray} {maxL : Nat}
    (hown : s.vm.findClass own = some m.cls) (hy1 : y.name = "<init>") (hlink : (Cond.methodLink own index y).before args s = true) (hinst : (Cond.instanceMethod y).before args s = true)
    (hcode : (Cond.code y bytes maxL none).before args s = true) (hy : y.cls ≠ "java/lang/invoke/MethodHandle" ∧ y.cls ≠ "java/lang/invoke/VarHandle")
    {W9 : Nat} {Pre : Pt → Array Value → Prop} {Post : Pt → Array Value → Option Value → Pt → Prop} {PostX : Pt → Array Value → Addr → Pt → Prop} (hK : vx_Back l R p e below s args y 3 W9 Pre Post PostX)
    {g : JFrame} (hg : g.method = m) (hsize : g.locals.size = c.maxLocals) {a : Addr} {argsL rest : List Value} (hlen : ∀ sig, parseMethodDescriptor y.desc = some sig → argsL.length = sig.parameters.length)
    (hstack : g.stack = argsL.reverse ++ .ref a :: rest) (hW : 2 * g.monitorRoom + (rest.map fun v => v.category).sum ≤ W9) (hdg : decode c.code g.pc = .ok (.invokespecial index, 3))
    (hpre : ∀ vm₁, s.WarmedH vm₁ → Pre ⟨T.setVm vm₁, locs, cells, slots⟩ (Value.ref a :: argsL).toArray) :
    (∃ (v : Option Value) (vm₁ : Vm) (B : Pt), s.WarmedH vm₁ ∧ Stand p l e R s m args below meth c B.U B.locs B.cells B.slots ∧ Post ⟨T.setVm vm₁, locs, cells, slots⟩ (Value.ref a :: argsL).toArray v B ∧
      ∀ target, Steps p.tables e below (B.U.setTop { g with pc := g.pc + 3, stack := v.toList ++ rest }) target → Steps p.tables e below (T.setTop g) target) ∨
    (∃ (q : Addr) (vm₁ : Vm) (B : Pt), s.WarmedH vm₁ ∧ Stand p l e R s m args below meth c B.U B.locs B.cells B.slots ∧ PostX ⟨T.setVm vm₁, locs, cells, slots⟩ (Value.ref a :: argsL).toArray q B ∧
      Steps p.tables e below (T.setTop g) ((B.U.setTop { g with stack := rest }).pushFrame (.throwing q))) := by
  subst hg
  have hpl : e.platform.magicAccessors = ({} : Platform).magicAccessors := by rw [X.admits.platform]
  obtain ⟨mk, methM, cM, kP, vm₁, hnamed, hmethM, hcodeM, -, hlocalsM, -, hkP, -, hW₁, hstep₁⟩ := Steps.initColdArgs (e := e) X.here hexec X.warmed hpl hown hy1 hy hlink hinst hcode (f := g) rfl hlen hstack hdg
  have X₁ := X.noted hW₁
  rcases hK g.method meth c ⟨T.setVm vm₁, locs, cells, slots⟩ { g with stack := rest } (.invokespecial index) mk (Value.ref a :: argsL).toArray X₁ rfl hsize hdg hW (X₁.named hnamed) (hpre vm₁ X₁.warmed) with ⟨v, B, X', hpost, hsteps⟩ | ⟨q, B, X', hpost, hsteps⟩
  · exact Or.inl ⟨v, vm₁, B, X₁.warmed, X', hpost, fun target h => hstep₁ _ fun acts => by rw [doInvoke_state]; exact hsteps.trans h⟩
  · exact Or.inr ⟨q, vm₁, B, X₁.warmed, X', hpost, hstep₁ _ fun acts => by rw [doInvoke_state]; exact hsteps⟩
end VXIA
section VXIB
variable {p : Program} {l : Launch} {e : Env} {R : Room} {s : State} {m : MethodId} {args : Array Value} {below : List Frame} {meth : Method} {c : Code} {H : Heap} {locs : List Loc} {cells slots : Nat}
variable {y : MethodName} {bytes cc : ByteArray} {maxL nL mc ms n index : Nat} {ret : Option FieldType} {ws : List Cond} {rm : Room} {Pc : Array Value → State → Prop} {Qc : Array Value → State → Outcome → State → Prop} {XC : String → State → State → Prop} {free : Addr → Prop} {Ts : List Cond} {own C : String} {b : Addr} {As rest : List Value} {g : JFrame}
theorem vx_runI (S : CallFix p m c cc nL s args Ts own) (hM : vx_Met l y ws rm Pc Qc XC mc ms free) (cw : CallB R s args own index y bytes maxL none ws rm mc ms n ∧ y.name = "<init>" ∧ (Cond.instanceMethod y).before args s = true) (hp : PreS s H Pc (.ref b :: As))
    (hg : g.method = m) (hn : As.length = n) (hsize : g.locals.size = nL) (hstack : g.stack = As.reverse ++ .ref b :: rest) (hW : 2 * g.monitorRoom + (rest.map fun v => v.category).sum ≤ 8) (hdg : decode cc g.pc = .ok (.invokespecial index, 3)) (hf : cells + mc ≤ R.cells ∧ slots + ms ≤ R.slots) :
    vx_Run p l e R s m args below meth c H locs cells slots mc ms g rest (Qc (Value.ref b :: As).toArray) XC free := by
  have hK : vx_Back l R p e below s args y 3 8 (PreOf R mc ms Pc) (PostOf Qc mc ms free) (vx_Post XC mc ms free) := vx_callBack cw.1 hM hp.1
  obtain ⟨⟨-, -, -, -, -, -, hcode, -, hy, hlen, hl⟩, hy1, hin⟩ := cw
  obtain ⟨hx, hb, hml, ho, -⟩ := S
  have hPc := hp.2
  intro T hT X
  rcases vx_callI X hx (bytes := bytes) (maxL := maxL) ho hy1 hl hin hcode hy hK hg (hsize.trans hml.symm) (a := b) (argsL := As) (rest := rest) (fun sig h => hn.trans (hlen sig h)) hstack hW (by rw [hb]; exact hdg)
    (fun vm₁ hW₁ => ⟨hf.1, hf.2, hPc (T.setVm vm₁) hT hW₁⟩) with ⟨v, vm₁, ⟨U', l2, c2, s2⟩, hW₁, X', ⟨g', mk, t, L, e1, e2, hq, h1, hL, h2, h3⟩, st⟩ | ⟨q, vm₁, ⟨U', l2, c2, s2⟩, hW₁, X', ⟨g', mk, t, L, E, ce, e1, e2, hq, hce, hcv, hcl, h1, hL, h2, h3⟩, st⟩
  · dsimp only [Pt.U, Pt.locs, Pt.cells, Pt.slots] at X' e1 e2 h1 h2 h3 st
    subst h1; subst h2; subst h3
    exact Or.inl ⟨v, (T.setVm vm₁).calling g' mk (Value.ref b :: As).toArray, t, U', L, hT, X', hL, e1, e2, hq, st⟩
  · dsimp only [Pt.U, Pt.locs, Pt.cells, Pt.slots] at X' e1 e2 h1 h2 h3 st hcl
    subst h1; subst h2; subst h3
    exact Or.inr ⟨q, (T.setVm vm₁).calling g' mk (Value.ref b :: As).toArray, t, U', L, E, ce, hT, X', hL, e1, e2, hq, hce, hcv, vx_cls hW₁ hcl, st⟩
end VXIB
/-! ===== END ===== -/
/-! ===== BEGIN a private constructor of a nest mate that throws ===== -/
section VXIC
variable {p : Program} {l : Launch} {e : Env} {R : Room} {s : State} {m : MethodId} {args : Array Value} {below : List Frame} {meth : Method} {c : Code} {T : State} {locs : List Loc} {cells slots : Nat}
theorem vx_callIN (X : Stand p l e R s m args below meth c T locs cells slots) (hexec : p.tables.exec = Jvm.exec) {own : String} {index : Nat} {host : String} {y : MethodName} {bytes : ByteArray} {maxL : Nat}
    (hown : s.vm.findClass own = some m.cls) (hy1 : y.name = "<init>") (hlink : (Cond.methodLinkNest own index y host).before args s = true) (hinst : (Cond.instanceMethod y).before args s = true)
    (hcode : (Cond.code y bytes maxL none).before args s = true) (hy : y.cls ≠ "java/lang/invoke/MethodHandle" ∧ y.cls ≠ "java/lang/invoke/VarHandle")
    {W9 : Nat} {Pre : Pt → Array Value → Prop} {Post : Pt → Array Value → Option Value → Pt → Prop} {PostX : Pt → Array Value → Addr → Pt → Prop} (hK : vx_Back l R p e below s args y 3 W9 Pre Post PostX)
    {g : JFrame} (hg : g.method = m) (hsize : g.locals.size = c.maxLocals) {a : Addr} {argsL rest : List Value} (hlen : ∀ sig, parseMethodDescriptor y.desc = some sig → argsL.length = sig.parameters.length)
    (hstack : g.stack = argsL.reverse ++ .ref a :: rest) (hW : 2 * g.monitorRoom + (rest.map fun v => v.category).sum ≤ W9) (hdg : decode c.code g.pc = .ok (.invokespecial index, 3))
    (hpre : ∀ vm₁, s.WarmedH vm₁ → Pre ⟨T.setVm vm₁, locs, cells, slots⟩ (Value.ref a :: argsL).toArray) :
    (∃ (v : Option Value) (vm₁ : Vm) (B : Pt), s.WarmedH vm₁ ∧ Stand p l e R s m args below meth c B.U B.locs B.cells B.slots ∧ Post ⟨T.setVm vm₁, locs, cells, slots⟩ (Value.ref a :: argsL).toArray v B ∧
      ∀ target, Steps p.tables e below (B.U.setTop { g with pc := g.pc + 3, stack := v.toList ++ rest }) target → Steps p.tables e below (T.setTop g) target) ∨
    (∃ (q : Addr) (vm₁ : Vm) (B : Pt), s.WarmedH vm₁ ∧ Stand p l e R s m args below meth c B.U B.locs B.cells B.slots ∧ PostX ⟨T.setVm vm₁, locs, cells, slots⟩ (Value.ref a :: argsL).toArray q B ∧
      Steps p.tables e below (T.setTop g) ((B.U.setTop { g with stack := rest }).pushFrame (.throwing q))) := by
  subst hg
  have hpl : e.platform.magicAccessors = ({} : Platform).magicAccessors := by rw [X.admits.platform]
  obtain ⟨mk, methM, cM, kP, vm₁, hnamed, hmethM, hcodeM, -, hlocalsM, -, hkP, -, hW₁, hstep₁⟩ := Steps.initColdArgsNest (e := e) X.here hexec X.warmed hpl hown hy1 hy hlink hinst hcode (f := g) rfl hlen hstack hdg
  have X₁ := X.noted hW₁
  rcases hK g.method meth c ⟨T.setVm vm₁, locs, cells, slots⟩ { g with stack := rest } (.invokespecial index) mk (Value.ref a :: argsL).toArray X₁ rfl hsize hdg hW (X₁.named hnamed) (hpre vm₁ X₁.warmed) with ⟨v, B, X', hpost, hsteps⟩ | ⟨q, B, X', hpost, hsteps⟩
  · exact Or.inl ⟨v, vm₁, B, X₁.warmed, X', hpost, fun target h => hstep₁ _ fun acts => by rw [doInvoke_state]; exact hsteps.trans h⟩
  · exact Or.inr ⟨q, vm₁, B, X₁.warmed, X', hpost, hstep₁ _ fun acts => by rw [doInvoke_state]; exact hsteps⟩
end VXIC
section VXID
variable {p : Program} {l : Launch} {e : Env} {R : Room} {s : State} {m : MethodId} {args : Array Value} {below : List Frame} {meth : Method} {c : Code} {H : Heap} {locs : List Loc} {cells slots : Nat}
theorem vx_runIN {y : MethodName} {bytes cc : ByteArray} {maxL nL mc ms n index : Nat} {ws : List Cond} {rm : Room} {Pc : Array Value → State → Prop} {Qc : Array Value → State → Outcome → State → Prop} {XC : String → State → State → Prop} {free : Addr → Prop} {Ts : List Cond} {own host : String} {b : Addr} {As rest : List Value} {g : JFrame}
    (S : CallFix p m c cc nL s args Ts own) (hM : vx_Met l y ws rm Pc Qc XC mc ms free) (cw : va_CN R s args own index y host bytes maxL none ws rm mc ms n ∧ y.name = "<init>" ∧ (Cond.instanceMethod y).before args s = true) (hp : PreS s H Pc (.ref b :: As))
    (hg : g.method = m) (hn : As.length = n) (hsize : g.locals.size = nL) (hstack : g.stack = As.reverse ++ .ref b :: rest) (hW : 2 * g.monitorRoom + (rest.map fun v => v.category).sum ≤ 8) (hdg : decode cc g.pc = .ok (.invokespecial index, 3)) (hf : cells + mc ≤ R.cells ∧ slots + ms ≤ R.slots) :
    vx_Run p l e R s m args below meth c H locs cells slots mc ms g rest (Qc (Value.ref b :: As).toArray) XC free := by
  obtain ⟨⟨⟨hrc, hrs, hfr, hlo, hws, hcw⟩, hcode, hini, hy, hlen, hl⟩, hx1, hx2⟩ := cw
  have hK : vx_Back l R p e below s args y 3 8 (PreOf R mc ms Pc) (PostOf Qc mc ms free) (vx_Post XC mc ms free) := vx_back (bytes := bytes) (maxL := maxL) (ret := none) hM hp.1 hrc hrs hfr hlo hws hcw (fun a' U hW => word_at hW (Or.inl (by first | rfl | simp [Cond.onTables, Cond.keeps, Cond.steady])) hini)
  obtain ⟨hx, hb, hml, ho, -⟩ := S
  have hPc := hp.2
  intro T hT X
  rcases vx_callIN X hx (bytes := bytes) (maxL := maxL) ho hx1 hl hx2 hcode hy hK hg (hsize.trans hml.symm) (a := b) (argsL := As) (rest := rest) (fun sig h => hn.trans (hlen sig h)) hstack hW (by rw [hb]; exact hdg)
    (fun vm₁ hW₁ => ⟨hf.1, hf.2, hPc (T.setVm vm₁) hT hW₁⟩) with ⟨v, vm₁, ⟨U', l2, c2, s2⟩, hW₁, X', ⟨g', mk, t, L, e1, e2, hq, h1, hL, h2, h3⟩, st⟩ | ⟨q, vm₁, ⟨U', l2, c2, s2⟩, hW₁, X', ⟨g', mk, t, L, E, ce, e1, e2, hq, hce, hcv, hcl, h1, hL, h2, h3⟩, st⟩
  · dsimp only [Pt.U, Pt.locs, Pt.cells, Pt.slots] at X' e1 e2 h1 h2 h3 st
    subst h1; subst h2; subst h3
    exact Or.inl ⟨v, (T.setVm vm₁).calling g' mk (Value.ref b :: As).toArray, t, U', L, hT, X', hL, e1, e2, hq, st⟩
  · dsimp only [Pt.U, Pt.locs, Pt.cells, Pt.slots] at X' e1 e2 h1 h2 h3 st hcl
    subst h1; subst h2; subst h3
    exact Or.inr ⟨q, (T.setVm vm₁).calling g' mk (Value.ref b :: As).toArray, t, U', L, E, ce, hT, X', hL, e1, e2, hq, hce, hcv, vx_cls hW₁ hcl, st⟩
end VXID
/-! ===== END ===== -/
end
section
/-! THE EVALUATOR: a small machine over numbers and lists, run by the kernel. A value: an int (below 2^32), a reference (0 null, k + 1 the cell k), a long, a double, a float (their bits), or a thing apart (0 the script, 1 some exception, 2 nothing known, k + 3 the script's int k). -/
abbrev AV : Type := Nat ⊕ (Nat ⊕ (Nat ⊕ (Nat ⊕ (Nat ⊕ Nat))))
/-- a cell: an object (the number of its kind, its fields), an int array, a double array (length, contents) -/
abbrev AC : Type := (Nat × List AV) ⊕ ((Nat × List Nat) ⊕ (Nat × List Nat))
/-- returned, thrown (the number of the exception), or stopped for want of fuel (how many instructions stand behind this one, variables, stack) -/
abbrev Ot : Type := (Option AV ⊕ Nat) ⊕ (Nat × (List AV × List AV))
/-- an outcome, the heap, its size, cells and slots made -/
abbrev AH : Type := List (List AC)
abbrev Rs : Type := Ot × (AH × (Nat × (Nat × Nat)))
abbrev RR : Type := Option Rs
/-- variables, stack, heap, its size, cells, slots -/
abbrev Kt : Type := List AV → List AV → AH → Nat → Nat → Nat → RR
abbrev Cal : Type := Nat → List AV → AH → Nat → RR
abbrev Op : Type := Kt → (Nat → Kt) → Cal → Kt
theorem no_none {P : Prop} {r : Rs} (h : (none : RR) = some r) : P := by cases h
noncomputable def e_force (n : Nat) (k : Nat → RR) : RR := Nat.rec (motive := fun _ => RR) (k 0) (fun m _ => k (Nat.succ m)) n
theorem e_force_eq (n : Nat) (k : Nat → RR) : e_force n k = k n := by cases n <;> rfl
noncomputable def e_if (b : Bool) (x y : RR) : RR := Bool.rec (motive := fun _ => RR) y x b
theorem e_if_inv {b : Bool} {x y : RR} {r : Rs} (h : e_if b x y = some r) : (b = true ∧ x = some r) ∨ (b = false ∧ y = some r) := by
  cases b with
  | true => exact Or.inl ⟨rfl, h⟩
  | false => exact Or.inr ⟨rfl, h⟩
theorem e_if_t {b : Bool} {x : RR} {r : Rs} (h : e_if b x none = some r) : b = true ∧ x = some r := by
  cases b with
  | true => exact ⟨rfl, h⟩
  | false => exact no_none h
noncomputable def e_nil {α : Type} (s : List α) (k : RR) : RR := List.rec (motive := fun _ => RR) k (fun _ _ _ => none) s
theorem e_nil_inv {α : Type} {s : List α} {k : RR} {r : Rs} (h : e_nil s k = some r) : s = [] ∧ k = some r := by
  cases s with
  | nil => exact ⟨rfl, h⟩
  | cons _ _ => exact no_none h
noncomputable def e_pV (s : List AV) (k : AV → List AV → RR) : RR := List.rec (motive := fun _ => RR) none (fun v t _ => k v t) s
theorem e_pV_inv {s : List AV} {k : AV → List AV → RR} {r : Rs} (h : e_pV s k = some r) : ∃ v t, s = v :: t ∧ k v t = some r := by
  cases s with
  | nil => exact no_none h
  | cons v t => exact ⟨v, t, rfl, h⟩
noncomputable def e_vI (v : AV) (k : Nat → RR) : RR := Sum.rec (motive := fun _ => RR) (fun n => k n) (fun _ => none) v
theorem e_vI_inv {v : AV} {k : Nat → RR} {r : Rs} (h : e_vI v k = some r) : ∃ n, v = .inl n ∧ k n = some r := by
  cases v with
  | inl n => exact ⟨n, rfl, h⟩
  | inr _ => exact no_none h
noncomputable def e_pI (s : List AV) (k : Nat → List AV → RR) : RR := List.rec (motive := fun _ => RR) none (fun v t _ => Sum.rec (motive := fun _ => RR) (fun n => k n t) (fun _ => none) v) s
theorem e_pI_inv {s : List AV} {k : Nat → List AV → RR} {r : Rs} (h : e_pI s k = some r) : ∃ n t, s = .inl n :: t ∧ k n t = some r := by
  cases s with
  | nil => exact no_none h
  | cons v t =>
    cases v with
    | inl n => exact ⟨n, t, rfl, h⟩
    | inr _ => exact no_none h
/-- an object's or array's cell -/
noncomputable def e_vR (v : AV) (k : Nat → RR) : RR := Sum.rec (motive := fun _ => RR) (fun _ => none) (fun w => Sum.rec (motive := fun _ => RR) (fun n => Nat.rec (motive := fun _ => RR) none (fun m _ => k m) n) (fun _ => none) w) v
theorem e_vR_inv {v : AV} {k : Nat → RR} {r : Rs} (h : e_vR v k = some r) : ∃ m, v = .inr (.inl (m + 1)) ∧ k m = some r := by
  cases v with
  | inl _ => exact no_none h
  | inr w =>
    cases w with
    | inr _ => exact no_none h
    | inl n =>
      cases n with
      | zero => exact no_none h
      | succ m => exact ⟨m, rfl, h⟩
noncomputable def e_pR (s : List AV) (k : Nat → List AV → RR) : RR := e_pV s fun v t => e_vR v fun m => k m t
theorem e_pR_inv {s : List AV} {k : Nat → List AV → RR} {r : Rs} (h : e_pR s k = some r) : ∃ m t, s = .inr (.inl (m + 1)) :: t ∧ k m t = some r := by
  obtain ⟨v, t, rfl, h1⟩ := e_pV_inv h
  obtain ⟨m, rfl, h2⟩ := e_vR_inv h1
  exact ⟨m, t, rfl, h2⟩
noncomputable def e_vL (v : AV) (k : Nat → RR) : RR := Sum.rec (motive := fun _ => RR) (fun _ => none) (fun w => Sum.rec (motive := fun _ => RR) (fun _ => none) (fun w => Sum.rec (motive := fun _ => RR) (fun n => k n) (fun _ => none) w) w) v
theorem e_vL_inv {v : AV} {k : Nat → RR} {r : Rs} (h : e_vL v k = some r) : ∃ m, v = .inr (.inr (.inl m)) ∧ k m = some r := by
  rcases v with _ | _ | n | _
  · exact no_none h
  · exact no_none h
  · exact ⟨n, rfl, h⟩
  · exact no_none h
noncomputable def e_vD (v : AV) (k : Nat → RR) : RR := Sum.rec (motive := fun _ => RR) (fun _ => none) (fun w => Sum.rec (motive := fun _ => RR) (fun _ => none) (fun w => Sum.rec (motive := fun _ => RR) (fun _ => none) (fun w => Sum.rec (motive := fun _ => RR) (fun n => k n) (fun _ => none) w) w) w) v
theorem e_vD_inv {v : AV} {k : Nat → RR} {r : Rs} (h : e_vD v k = some r) : ∃ m, v = .inr (.inr (.inr (.inl m))) ∧ k m = some r := by
  rcases v with _ | _ | _ | n | _
  · exact no_none h
  · exact no_none h
  · exact no_none h
  · exact ⟨n, rfl, h⟩
  · exact no_none h
noncomputable def e_vF (v : AV) (k : Nat → RR) : RR := Sum.rec (motive := fun _ => RR) (fun _ => none) (fun w => Sum.rec (motive := fun _ => RR) (fun _ => none) (fun w => Sum.rec (motive := fun _ => RR) (fun _ => none) (fun w => Sum.rec (motive := fun _ => RR) (fun _ => none) (fun w => Sum.rec (motive := fun _ => RR) (fun n => k n) (fun _ => none) w) w) w) w) v
theorem e_vF_inv {v : AV} {k : Nat → RR} {r : Rs} (h : e_vF v k = some r) : ∃ m, v = .inr (.inr (.inr (.inr (.inl m)))) ∧ k m = some r := by
  rcases v with _ | _ | _ | _ | n | _
  · exact no_none h
  · exact no_none h
  · exact no_none h
  · exact no_none h
  · exact ⟨n, rfl, h⟩
  · exact no_none h
noncomputable def e_vS (v : AV) (k : Nat → RR) : RR := Sum.rec (motive := fun _ => RR) (fun _ => none) (fun w => Sum.rec (motive := fun _ => RR) (fun _ => none) (fun w => Sum.rec (motive := fun _ => RR) (fun _ => none) (fun w => Sum.rec (motive := fun _ => RR) (fun _ => none) (fun w => Sum.rec (motive := fun _ => RR) (fun _ => none) (fun n => k n) w) w) w) w) v
theorem e_vS_inv {v : AV} {k : Nat → RR} {r : Rs} (h : e_vS v k = some r) : ∃ m, v = .inr (.inr (.inr (.inr (.inr m)))) ∧ k m = some r := by
  rcases v with _ | _ | _ | _ | _ | n
  · exact no_none h
  · exact no_none h
  · exact no_none h
  · exact no_none h
  · exact no_none h
  · exact ⟨n, rfl, h⟩
/-- one slot wide -/
noncomputable def e_one (v : AV) : Bool := Sum.rec (motive := fun _ => Bool) (fun _ => true) (fun w => Sum.rec (motive := fun _ => Bool) (fun _ => true) (fun w => Sum.rec (motive := fun _ => Bool) (fun _ => false) (fun w => Sum.rec (motive := fun _ => Bool) (fun _ => false) (fun _ => true) w) w) w) v
noncomputable def e_nth {α : Type} (l : List α) (n : Nat) (k : α → RR) : RR := List.rec (motive := fun _ => Nat → RR) (fun _ => none) (fun a _ ih n => Nat.rec (motive := fun _ => RR) (k a) (fun m _ => ih m) n) l n
theorem e_nth_inv {α : Type} {l : List α} {n : Nat} {k : α → RR} {r : Rs} (h : e_nth l n k = some r) : ∃ a, l[n]? = some a ∧ k a = some r := by
  induction l generalizing n with
  | nil => exact no_none h
  | cons a t ih =>
    cases n with
    | zero => exact ⟨a, rfl, h⟩
    | succ m =>
      obtain ⟨b, h1, h2⟩ := ih (n := m) h
      exact ⟨b, by rw [List.getElem?_cons_succ]; exact h1, h2⟩
noncomputable def e_upd {α : Type} (l : List α) (n : Nat) (v : α) (k : List α → RR) : RR := List.rec (motive := fun _ => Nat → (List α → RR) → RR) (fun _ _ => none) (fun a t ih n k => Nat.rec (motive := fun _ => RR) (k (v :: t)) (fun m _ => ih m (fun t' => k (a :: t'))) n) l n k
theorem e_upd_inv {α : Type} {l : List α} {n : Nat} {v : α} {k : List α → RR} {r : Rs} (h : e_upd l n v k = some r) : n < l.length ∧ k (l.set n v) = some r := by
  induction l generalizing n k with
  | nil => exact no_none h
  | cons a t ih =>
    cases n with
    | zero => exact ⟨Nat.zero_lt_succ _, h⟩
    | succ m =>
      obtain ⟨h1, h2⟩ := ih (n := m) (k := fun t' => k (a :: t')) h
      exact ⟨Nat.succ_lt_succ h1, h2⟩
noncomputable def e_app {α : Type} (l : List α) (v : α) (k : List α → RR) : RR := List.rec (motive := fun _ => (List α → RR) → RR) (fun k => k [v]) (fun a _ ih k => ih (fun t' => k (a :: t'))) l k
theorem e_app_eq {α : Type} (l : List α) (v : α) (k : List α → RR) : e_app l v k = k (l ++ [v]) := by
  induction l generalizing k with
  | nil => rfl
  | cons a t ih => exact ih (fun t' => k (a :: t'))
noncomputable def e_rep (n : Nat) (k : List Nat → RR) : RR := Nat.rec (motive := fun _ => (List Nat → RR) → RR) (fun k => k []) (fun _ ih k => ih (fun t => k (0 :: t))) n k
theorem e_rep_eq (n : Nat) (k : List Nat → RR) : e_rep n k = k (List.replicate n 0) := by
  induction n generalizing k with
  | zero => rfl
  | succ n ih => exact ih (fun t => k (0 :: t))
noncomputable def e_at {α : Type} (l : List α) (n : Nat) : Option α := List.rec (motive := fun _ => Nat → Option α) (fun _ => none) (fun a _ ih n => Nat.rec (motive := fun _ => Option α) (some a) (fun m _ => ih m) n) l n
theorem e_at_eq {α : Type} (l : List α) (n : Nat) : e_at l n = l[n]? := by
  induction l generalizing n with
  | nil => cases n <;> rfl
  | cons a t ih =>
    cases n with
    | zero => rfl
    | succ m => exact (ih m).trans (List.getElem?_cons_succ).symm
/-! the heap in rows of eight cells; what is read by closed terms is kept by the kernel -/
noncomputable def e_op {α : Type} (o : Option α) (k : α → RR) : RR := Option.rec (motive := fun _ => RR) none k o
theorem e_op_inv {α : Type} {o : Option α} {k : α → RR} {r : Rs} (h : e_op o k = some r) : ∃ a, o = some a ∧ k a = some r := by
  cases o with
  | none => exact no_none h
  | some a => exact ⟨a, rfl, h⟩
noncomputable def e_cell (h : AH) (a : Nat) : Option AC := Option.rec (motive := fun _ => Option AC) none (fun r => e_at r (Nat.mod a 8)) (e_at h (Nat.div a 8))
noncomputable def e_kind (h : AH) (a ci : Nat) : Option (List AV) := Option.rec (motive := fun _ => Option (List AV)) none (fun cl => Sum.rec (motive := fun _ => Option (List AV)) (fun o => Bool.rec (motive := fun _ => Option (List AV)) none (some o.2) (Nat.beq o.1 ci)) (fun _ => none) cl) (e_cell h a)
noncomputable def e_fld (h : AH) (a ci k : Nat) : Option AV := Option.rec (motive := fun _ => Option AV) none (fun fs => e_at fs k) (e_kind h a ci)
noncomputable def e_aI (h : AH) (a : Nat) : Option (Nat × List Nat) := Option.rec (motive := fun _ => Option (Nat × List Nat)) none (fun cl => Sum.rec (motive := fun _ => Option (Nat × List Nat)) (fun _ => none) (fun w => Sum.rec (motive := fun _ => Option (Nat × List Nat)) (fun o => some o) (fun _ => none) w) cl) (e_cell h a)
noncomputable def e_aD (h : AH) (a : Nat) : Option (Nat × List Nat) := Option.rec (motive := fun _ => Option (Nat × List Nat)) none (fun cl => Sum.rec (motive := fun _ => Option (Nat × List Nat)) (fun _ => none) (fun w => Sum.rec (motive := fun _ => Option (Nat × List Nat)) (fun _ => none) (fun o => some o) w) cl) (e_cell h a)
noncomputable def e_elI (h : AH) (a i : Nat) : Option Nat := Option.rec (motive := fun _ => Option Nat) none (fun o => e_at o.2 i) (e_aI h a)
noncomputable def e_elD (h : AH) (a i : Nat) : Option Nat := Option.rec (motive := fun _ => Option Nat) none (fun o => e_at o.2 i) (e_aD h a)
noncomputable def e_len (h : AH) (a : Nat) : Option Nat := Option.rec (motive := fun _ => Option Nat) none (fun cl => Sum.rec (motive := fun _ => Option Nat) (fun _ => none) (fun w => Sum.rec (motive := fun _ => Option Nat) (fun o => some o.1) (fun o => some o.1) w) cl) (e_cell h a)
noncomputable def e_hup (h : AH) (a : Nat) (v : AC) (k : AH → RR) : RR := e_op (e_at h (Nat.div a 8)) fun r => e_upd r (Nat.mod a 8) v fun r => e_upd h (Nat.div a 8) r k
noncomputable def e_happ (h : AH) (z : Nat) (v : AC) (k : AH → RR) : RR := e_if (Nat.beq (Nat.mod z 8) 0) (e_app h [v] k) (e_op (e_at h (Nat.div z 8)) fun r => e_app r v fun r => e_upd h (Nat.div z 8) r k)
noncomputable def e_obj (h : AH) (a ci : Nat) (k : List AV → RR) : RR := e_op (e_kind h a ci) k
noncomputable def e_arrI (h : AH) (a : Nat) (k : Nat → List Nat → RR) : RR := e_op (e_aI h a) fun o => k o.1 o.2
noncomputable def e_arrD (h : AH) (a : Nat) (k : Nat → List Nat → RR) : RR := e_op (e_aD h a) fun o => k o.1 o.2
noncomputable def e_alen (h : AH) (a : Nat) (k : Nat → RR) : RR := e_op (e_len h a) k

theorem e_cell_eq (h : AH) (a : Nat) : e_cell h a = (h[a / 8]?).bind (fun r => r[a % 8]?) := by
  show Option.rec (motive := fun _ => Option AC) none (fun r => e_at r (a % 8)) (e_at h (a / 8)) = _
  rw [e_at_eq]
  cases h[a / 8]? with
  | none => rfl
  | some r => exact e_at_eq r (a % 8)
theorem e_kind_inv {h : AH} {a ci : Nat} {fs : List AV} (hh : e_kind h a ci = some fs) : e_cell h a = some (.inl (ci, fs)) := by
  unfold e_kind at hh
  cases hc : e_cell h a with
  | none => rw [hc] at hh; cases hh
  | some cl =>
    rw [hc] at hh
    rcases cl with ⟨c, gs⟩ | w
    · have h1 : Bool.rec (motive := fun _ => Option (List AV)) none (some gs) (Nat.beq c ci) = some fs := hh
      cases hb : Nat.beq c ci with
      | false =>
        rw [hb] at h1
        have h2 : (none : Option (List AV)) = some fs := h1
        cases h2
      | true =>
        rw [hb] at h1
        have h2 : some gs = some fs := h1
        have h3 := Nat.eq_of_beq_eq_true hb
        have h4 := Option.some.inj h2
        subst h3
        subst h4
        rfl
    · cases hh
theorem e_fld_inv {h : AH} {a ci k : Nat} {v : AV} (hh : e_fld h a ci k = some v) : ∃ fs, e_cell h a = some (.inl (ci, fs)) ∧ fs[k]? = some v := by
  unfold e_fld at hh
  cases hc : e_kind h a ci with
  | none => rw [hc] at hh; cases hh
  | some fs =>
    rw [hc] at hh
    exact ⟨fs, e_kind_inv hc, (e_at_eq fs k).symm.trans hh⟩
theorem e_aI_inv {h : AH} {a : Nat} {o : Nat × List Nat} (hh : e_aI h a = some o) : e_cell h a = some (.inr (.inl o)) := by
  unfold e_aI at hh
  cases hc : e_cell h a with
  | none => rw [hc] at hh; cases hh
  | some cl =>
    rw [hc] at hh
    rcases cl with _ | w | _
    · cases hh
    · cases hh; rfl
    · cases hh
theorem e_aD_inv {h : AH} {a : Nat} {o : Nat × List Nat} (hh : e_aD h a = some o) : e_cell h a = some (.inr (.inr o)) := by
  unfold e_aD at hh
  cases hc : e_cell h a with
  | none => rw [hc] at hh; cases hh
  | some cl =>
    rw [hc] at hh
    rcases cl with _ | w | _
    · cases hh
    · cases hh
    · cases hh; rfl
theorem e_elI_inv {h : AH} {a i x : Nat} (hh : e_elI h a i = some x) : ∃ o, e_cell h a = some (.inr (.inl o)) ∧ o.2[i]? = some x := by
  unfold e_elI at hh
  cases hc : e_aI h a with
  | none => rw [hc] at hh; cases hh
  | some o =>
    rw [hc] at hh
    exact ⟨o, e_aI_inv hc, (e_at_eq o.2 i).symm.trans hh⟩
theorem e_elD_inv {h : AH} {a i x : Nat} (hh : e_elD h a i = some x) : ∃ o, e_cell h a = some (.inr (.inr o)) ∧ o.2[i]? = some x := by
  unfold e_elD at hh
  cases hc : e_aD h a with
  | none => rw [hc] at hh; cases hh
  | some o =>
    rw [hc] at hh
    exact ⟨o, e_aD_inv hc, (e_at_eq o.2 i).symm.trans hh⟩
theorem e_len_inv {h : AH} {a x : Nat} (hh : e_len h a = some x) : (∃ xs, e_cell h a = some (.inr (.inl (x, xs)))) ∨ (∃ xs, e_cell h a = some (.inr (.inr (x, xs)))) := by
  unfold e_len at hh
  cases hc : e_cell h a with
  | none => rw [hc] at hh; cases hh
  | some cl =>
    rw [hc] at hh
    rcases cl with _ | ⟨n, xs⟩ | ⟨n, xs⟩
    · cases hh
    · cases hh; exact Or.inl ⟨xs, rfl⟩
    · cases hh; exact Or.inr ⟨xs, rfl⟩
/-- the rows are full, but for the last one -/
def e_Wf (h : AH) (z : Nat) : Prop := h.length = (z + 7) / 8 ∧ ∀ (j : Nat) (r : List AC), h[j]? = some r → r.length = min 8 (z - 8 * j)
theorem e_Wf_nil : e_Wf [] 0 := ⟨rfl, fun j r h => by simp at h⟩
theorem e_Wf_lt {h : AH} {z a : Nat} {cl : AC} (hw : e_Wf h z) (hc : e_cell h a = some cl) : a < z := by
  rw [e_cell_eq] at hc
  cases hr : h[a / 8]? with
  | none => rw [hr] at hc; cases hc
  | some r =>
    rw [hr] at hc
    have h1 : r[a % 8]? = some cl := hc
    have h2 := (List.getElem?_eq_some_iff.mp h1).1
    have h3 := hw.2 _ r hr
    omega
theorem e_hup_inv {h : AH} {a : Nat} {v : AC} {k : AH → RR} {r : Rs} (hh : e_hup h a v k = some r) : ∃ h', k h' = some r ∧ (∀ z, e_Wf h z → e_Wf h' z) ∧ e_cell h' a = some v ∧ ∀ b, b ≠ a → e_cell h' b = e_cell h b := by
  obtain ⟨rw0, h1, h2⟩ := e_op_inv hh
  rw [e_at_eq] at h1
  have h1 : h[a / 8]? = some rw0 := h1
  obtain ⟨h3, h4⟩ := e_upd_inv h2
  obtain ⟨h5, h6⟩ := e_upd_inv h4
  have h3 : a % 8 < rw0.length := h3
  have h5 : a / 8 < h.length := h5
  have h6 : k (h.set (a / 8) (rw0.set (a % 8) v)) = some r := h6
  refine ⟨_, h6, fun z hw => ⟨by rw [List.length_set]; exact hw.1, fun j r' hj => ?_⟩, ?_, fun b hb => ?_⟩
  · rw [List.getElem?_set] at hj
    split at hj
    · rename_i e
      subst e
      have hj : some (rw0.set (a % 8) v) = some r' := by simpa using hj
      cases hj
      rw [List.length_set]
      exact hw.2 _ rw0 h1
    · exact hw.2 j r' hj
  · rw [e_cell_eq, List.getElem?_set_self h5]
    show (rw0.set (a % 8) v)[a % 8]? = some v
    rw [List.getElem?_set_self h3]
  · rw [e_cell_eq, e_cell_eq]
    by_cases hd : b / 8 = a / 8
    · rw [hd, List.getElem?_set_self h5, h1]
      show (rw0.set (a % 8) v)[b % 8]? = rw0[b % 8]?
      rw [List.getElem?_set_ne (fun q => hb (by omega))]
    · rw [List.getElem?_set_ne (fun q => hd q.symm)]
theorem e_happ_inv {h : AH} {z : Nat} {v : AC} {k : AH → RR} {r : Rs} (hh : e_happ h z v k = some r) : ∃ h', k h' = some r ∧ (e_Wf h z → e_Wf h' (z + 1) ∧ e_cell h' z = some v ∧ ∀ b, b ≠ z → e_cell h' b = e_cell h b) := by
  rcases e_if_inv hh with ⟨h1, h2⟩ | ⟨h1, h2⟩
  · have h1 : z % 8 = 0 := Nat.eq_of_beq_eq_true h1
    rw [e_app_eq] at h2
    refine ⟨_, h2, fun hw => ?_⟩
    obtain ⟨w1, w2⟩ := hw
    have hl : h.length = z / 8 := by omega
    refine ⟨⟨by rw [List.length_append]; simp only [List.length_cons, List.length_nil]; omega, fun j r' hj => ?_⟩, ?_, fun b hb => ?_⟩
    · by_cases hjl : j < h.length
      · rw [List.getElem?_append_left hjl] at hj
        have := w2 j r' hj
        omega
      · rw [List.getElem?_append_right (by omega)] at hj
        have hz : j - h.length < 1 := (List.getElem?_eq_some_iff.mp hj).1
        rw [show j - h.length = 0 by omega] at hj
        cases hj
        simp only [List.length_cons, List.length_nil]
        omega
    · rw [e_cell_eq, List.getElem?_append_right (by omega), show z / 8 - h.length = 0 by omega, h1]
      rfl
    · rw [e_cell_eq, e_cell_eq]
      by_cases hjl : b / 8 < h.length
      · rw [List.getElem?_append_left hjl]
      · rw [List.getElem?_append_right (by omega), List.getElem?_eq_none (l := h) (by omega)]
        by_cases hq : b / 8 - h.length = 0
        · rw [hq]
          show ([v] : List AC)[b % 8]? = none
          exact List.getElem?_eq_none (by simp only [List.length_cons, List.length_nil]; omega)
        · rw [List.getElem?_eq_none (by simp only [List.length_cons, List.length_nil]; omega)]
  · have h1 : ¬ z % 8 = 0 := fun q => by
      have : Nat.beq (Nat.mod z 8) 0 = true := by rw [show Nat.mod z 8 = z % 8 from rfl, q]; rfl
      rw [this] at h1
      cases h1
    obtain ⟨rw0, h3, h4⟩ := e_op_inv h2
    rw [e_at_eq] at h3
    have h3 : h[z / 8]? = some rw0 := h3
    rw [e_app_eq] at h4
    obtain ⟨h5, h6⟩ := e_upd_inv h4
    have h5 : z / 8 < h.length := h5
    have h6 : k (h.set (z / 8) (rw0 ++ [v])) = some r := h6
    refine ⟨_, h6, fun hw => ?_⟩
    obtain ⟨w1, w2⟩ := hw
    have hr := w2 _ rw0 h3
    have hr : rw0.length = z % 8 := by omega
    refine ⟨⟨by rw [List.length_set]; omega, fun j r' hj => ?_⟩, ?_, fun b hb => ?_⟩
    · rw [List.getElem?_set] at hj
      split at hj
      · rename_i e
        subst e
        have hj : some (rw0 ++ [v]) = some r' := by simpa using hj
        cases hj
        rw [List.length_append, hr]
        simp only [List.length_cons, List.length_nil]
        omega
      · rename_i e
        have := w2 j r' hj
        have hjl := (List.getElem?_eq_some_iff.mp hj).1
        omega
    · rw [e_cell_eq, List.getElem?_set_self h5]
      show (rw0 ++ [v])[z % 8]? = some v
      rw [List.getElem?_append_right (by omega), show z % 8 - rw0.length = 0 by omega]
      rfl
    · rw [e_cell_eq, e_cell_eq]
      by_cases hd : b / 8 = z / 8
      · rw [hd, List.getElem?_set_self h5, h3]
        show (rw0 ++ [v])[b % 8]? = rw0[b % 8]?
        by_cases hlt : b % 8 < rw0.length
        · rw [List.getElem?_append_left hlt]
        · rw [List.getElem?_eq_none (l := rw0) (by omega), List.getElem?_eq_none]
          rw [List.length_append]
          simp only [List.length_cons, List.length_nil]
          omega
      · rw [List.getElem?_set_ne (fun q => hd q.symm)]
/-- the k uppermost values, the lowest first -/
noncomputable def e_take (k : Nat) (s acc : List AV) (K : List AV → List AV → RR) : RR := Nat.rec (motive := fun _ => List AV → List AV → RR) (fun s acc => K acc s) (fun _ ih s acc => e_pV s fun v s => ih s (v :: acc)) k s acc
theorem e_take_inv {k : Nat} {s acc : List AV} {K : List AV → List AV → RR} {r : Rs} (h : e_take k s acc K = some r) : ∃ as t, s = as.reverse ++ t ∧ as.length = k ∧ K (as ++ acc) t = some r := by
  induction k generalizing s acc with
  | zero => exact ⟨[], s, rfl, rfl, h⟩
  | succ k ih =>
    obtain ⟨v, t, rfl, h1⟩ := e_pV_inv (show e_pV s (fun v s => e_take k s (v :: acc) K) = some r from h)
    obtain ⟨as, t2, rfl, h2, h3⟩ := ih h1
    exact ⟨as ++ [v], t2, by simp, by simp [h2], by simpa using h3⟩
noncomputable def e_wt (s : List AV) : Nat := List.rec (motive := fun _ => Nat) 0 (fun v _ ih => Nat.add (Bool.rec (motive := fun _ => Nat) 2 1 (e_one v)) ih) s
/-- a method's variables at its entry: two places for what is two slots wide -/
noncomputable def e_locs (as pad : List AV) : List AV := List.rec (motive := fun _ => List AV) pad (fun v _ ih => Bool.rec (motive := fun _ => List AV) (v :: .inr (.inr (.inr (.inr (.inr 2)))) :: ih) (v :: ih) (e_one v)) as
noncomputable def e_drop {α : Type} (l : List α) (n : Nat) : List α := List.rec (motive := fun _ => Nat → List α) (fun _ => []) (fun a t ih n => Nat.rec (motive := fun _ => List α) (a :: t) (fun m _ => ih m) n) l n
theorem e_drop_eq {α : Type} (l : List α) (n : Nat) : e_drop l n = l.drop n := by
  induction l generalizing n with
  | nil => cases n <;> rfl
  | cons a t ih =>
    cases n with
    | zero => rfl
    | succ m => exact ih m
/-! THE INSTRUCTIONS -/
noncomputable def o_no : Op := fun _ _ _ _ _ _ _ _ _ => none
noncomputable def o_ic (v : Nat) : Op := fun nx _ _ l s h z c n => nx l (.inl v :: s) h z c n
noncomputable def o_v (v : AV) : Op := fun nx _ _ l s h z c n => nx l (v :: s) h z c n
noncomputable def o_ild (i : Nat) : Op := fun nx _ _ l s h z c n => e_nth l i fun v => e_vI v fun x => nx l (.inl x :: s) h z c n
noncomputable def o_ald (i : Nat) : Op := fun nx _ _ l s h z c n => e_nth l i fun v => e_vR v fun _ => nx l (v :: s) h z c n
noncomputable def o_sld (i : Nat) : Op := fun nx _ _ l s h z c n => e_nth l i fun v => e_vS v fun x => e_if (Nat.beq x 0) (nx l (v :: s) h z c n) none
noncomputable def o_lld (i : Nat) : Op := fun nx _ _ l s h z c n => e_nth l i fun v => e_vL v fun _ => nx l (v :: s) h z c n
noncomputable def o_dld (i : Nat) : Op := fun nx _ _ l s h z c n => e_nth l i fun v => e_vD v fun _ => nx l (v :: s) h z c n
/-- into the place j + 1, which holds no second half -/
noncomputable def o_ist (j : Nat) : Op := fun nx _ _ l s h z c n => e_pI s fun x s => e_nth l j fun v => e_if (e_one v) (e_upd l (Nat.succ j) (.inl x) fun l => nx l s h z c n) none
noncomputable def o_ast (j : Nat) : Op := fun nx _ _ l s h z c n => e_pR s fun x s => e_nth l j fun v => e_if (e_one v) (e_upd l (Nat.succ j) (.inr (.inl (Nat.succ x))) fun l => nx l s h z c n) none
/-- an exception that was caught -/
noncomputable def o_xst (j : Nat) : Op := fun nx _ _ l s h z c n => e_pV s fun x s => e_vS x fun t => e_if (Nat.beq t 1) (e_nth l j fun v => e_if (e_one v) (e_upd l (Nat.succ j) x fun l => nx l s h z c n) none) none
noncomputable def o_wst (isD : Bool) (j : Nat) : Op := fun nx _ _ l s h z c n => e_pV s fun x s => e_if (Bool.rec (motive := fun _ => Bool) true false (e_one x)) (Bool.rec (motive := fun _ => RR) (e_vL x fun _ => e_nth l j fun v => e_if (e_one v) (e_upd l (Nat.succ j) x fun l => e_upd l (Nat.succ (Nat.succ j)) (.inr (.inr (.inr (.inr (.inr 2))))) fun l => nx l s h z c n) none) (e_vD x fun _ => e_nth l j fun v => e_if (e_one v) (e_upd l (Nat.succ j) x fun l => e_upd l (Nat.succ (Nat.succ j)) (.inr (.inr (.inr (.inr (.inr 2))))) fun l => nx l s h z c n) none) isD) none
noncomputable def o_inc (i k : Nat) : Op := fun nx _ _ l s h z c n => e_nth l i fun v => e_vI v fun x => e_force (Nat.mod (Nat.add x k) 4294967296) fun y => e_upd l i (.inl y) fun l => nx l s h z c n
noncomputable def o_bin (f : Nat → Nat → Nat) : Op := fun nx _ _ l s h z c n => e_pI s fun b s => e_pI s fun a s => e_force (f a b) fun x => nx l (.inl x :: s) h z c n
noncomputable def o_un (f : Nat → Nat) : Op := fun nx _ _ l s h z c n => e_pI s fun a s => e_force (f a) fun x => nx l (.inl x :: s) h z c n
noncomputable def o_rem : Op := fun nx _ _ l s h z c n => e_pI s fun b s => e_pI s fun a s => e_if (Nat.ble 1 b) (e_if (Nat.ble b 2147483647) (e_if (Nat.ble a 2147483647) (e_force (Nat.mod a b) fun x => nx l (.inl x :: s) h z c n) none) none) none
noncomputable def o_shr : Op := fun nx _ _ l s h z c n => e_pI s fun b s => e_pI s fun a s => e_if (Nat.ble b 31) (e_if (Nat.ble a 2147483647) (e_force (Nat.div a (Nat.pow 2 b)) fun x => nx l (.inl x :: s) h z c n) none) none
noncomputable def o_dup : Op := fun nx _ _ l s h z c n => e_pV s fun v t => e_if (e_one v) (nx l (v :: v :: t) h z c n) none
noncomputable def o_pop : Op := fun nx _ _ l s h z c n => e_pV s fun v t => e_if (e_one v) (nx l t h z c n) none
noncomputable def o_dup2 : Op := fun nx _ _ l s h z c n => e_pV s fun v t => e_pV t fun w t => e_if (e_one v) (e_if (e_one w) (nx l (v :: w :: v :: w :: t) h z c n) none) none
noncomputable def o_go (t : Nat) : Op := fun _ jp _ l s h z c n => jp t l s h z c n
noncomputable def o_if (t : Nat) (p : Nat → Bool) : Op := fun nx jp _ l s h z c n => e_pI s fun a s => e_if (p a) (jp t l s h z c n) (nx l s h z c n)
noncomputable def o_if2 (t : Nat) (p : Nat → Nat → Bool) : Op := fun nx jp _ l s h z c n => e_pI s fun b s => e_pI s fun a s => e_if (p a b) (jp t l s h z c n) (nx l s h z c n)
noncomputable def o_sw (lo : Nat) (ts : List Nat) : Op := fun _ jp _ l s h z c n => e_pI s fun a s => e_if (Nat.ble lo a) (e_op (e_at ts (Nat.sub a lo)) fun t => jp t l s h z c n) none
noncomputable def o_get (ci k : Nat) : Op := fun nx _ _ l s h z c n => e_pR s fun a s => e_op (e_fld h a ci k) fun v => nx l (v :: s) h z c n
noncomputable def o_putI (ci k : Nat) : Op := fun nx _ _ l s h z c n => e_pI s fun x s => e_pR s fun a s => e_obj h a ci fun fs => e_upd fs k (.inl x) fun fs => e_hup h a (.inl (ci, fs)) fun h => nx l s h z c n
noncomputable def o_putZ (ci k : Nat) : Op := fun nx _ _ l s h z c n => e_pI s fun x s => e_if (Nat.ble x 1) (e_pR s fun a s => e_obj h a ci fun fs => e_upd fs k (.inl x) fun fs => e_hup h a (.inl (ci, fs)) fun h => nx l s h z c n) none
noncomputable def o_putR (ci k : Nat) : Op := fun nx _ _ l s h z c n => e_pR s fun x s => e_pR s fun a s => e_obj h a ci fun fs => e_upd fs k (.inr (.inl (Nat.succ x))) fun fs => e_hup h a (.inl (ci, fs)) fun h => nx l s h z c n
noncomputable def o_new (ci N : Nat) (fs : List AV) : Op := fun nx _ _ l s h z c n => e_happ h z (.inl (ci, fs)) fun h => e_force (Nat.succ z) fun z => e_force (Nat.succ c) fun c => e_force (Nat.add n N) fun n => nx l (.inr (.inl z) :: s) h z c n
noncomputable def o_newI : Op := fun nx _ _ l s h z c n => e_pI s fun k s => e_if (Nat.ble k 1000) (e_rep k fun xs => e_happ h z (.inr (.inl (k, xs))) fun h => e_force (Nat.succ z) fun z => e_force (Nat.succ c) fun c => e_force (Nat.add n k) fun n => nx l (.inr (.inl z) :: s) h z c n) none
noncomputable def o_newD : Op := fun nx _ _ l s h z c n => e_pI s fun k s => e_if (Nat.ble k 1000) (e_rep k fun xs => e_happ h z (.inr (.inr (k, xs))) fun h => e_force (Nat.succ z) fun z => e_force (Nat.succ c) fun c => e_force (Nat.add n k) fun n => nx l (.inr (.inl z) :: s) h z c n) none
noncomputable def o_alen : Op := fun nx _ _ l s h z c n => e_pR s fun a s => e_alen h a fun x => nx l (.inl x :: s) h z c n
noncomputable def o_iald : Op := fun nx _ _ l s h z c n => e_pI s fun i s => e_pR s fun a s => e_op (e_elI h a i) fun x => nx l (.inl x :: s) h z c n
noncomputable def o_iast : Op := fun nx _ _ l s h z c n => e_pI s fun x s => e_pI s fun i s => e_pR s fun a s => e_arrI h a fun m xs => e_upd xs i x fun xs => e_hup h a (.inr (.inl (m, xs))) fun h => nx l s h z c n
noncomputable def o_dald : Op := fun nx _ _ l s h z c n => e_pI s fun i s => e_pR s fun a s => e_op (e_elD h a i) fun x => nx l (.inr (.inr (.inr (.inl x))) :: s) h z c n
noncomputable def o_dast : Op := fun nx _ _ l s h z c n => e_pV s fun v s => e_vD v fun x => e_pI s fun i s => e_pR s fun a s => e_arrD h a fun m xs => e_upd xs i x fun xs => e_hup h a (.inr (.inr (m, xs))) fun h => nx l s h z c n
noncomputable def o_lbin (f : Nat → Nat → Nat) : Op := fun nx _ _ l s h z c n => e_pV s fun b s => e_vL b fun b => e_pV s fun a s => e_vL a fun a => e_force (f a b) fun x => nx l (.inr (.inr (.inl x)) :: s) h z c n
noncomputable def o_lcmp : Op := fun nx _ _ l s h z c n => e_pV s fun b s => e_vL b fun b => e_pV s fun a s => e_vL a fun a => e_if (Nat.beq a b) (nx l (.inl 0 :: s) h z c n) none
noncomputable def o_i2l : Op := fun nx _ _ l s h z c n => e_pI s fun a s => e_if (Nat.ble a 2147483647) (nx l (.inr (.inr (.inl a)) :: s) h z c n) none
noncomputable def o_i2d : Op := fun nx _ _ l s h z c n => e_pI s fun a s => e_force (Nat.mod (FP.Core.fromInt FP.Core.b64 (Bool.rec (motive := fun _ => Int) (Int.sub (Int.ofNat a) 4294967296) (Int.ofNat a) (Nat.ble a 2147483647))) 18446744073709551616) fun x => nx l (.inr (.inr (.inr (.inl x))) :: s) h z c n
noncomputable def o_i2f : Op := fun nx _ _ l s h z c n => e_pI s fun a s => e_force (Nat.mod (FP.Core.fromInt FP.Core.b32 (Bool.rec (motive := fun _ => Int) (Int.sub (Int.ofNat a) 4294967296) (Int.ofNat a) (Nat.ble a 2147483647))) 4294967296) fun x => nx l (.inr (.inr (.inr (.inr (.inl x)))) :: s) h z c n
noncomputable def o_dbin (f : Nat → Nat → Nat) : Op := fun nx _ _ l s h z c n => e_pV s fun b s => e_vD b fun b => e_pV s fun a s => e_vD a fun a => e_force (Nat.mod (f a b) 18446744073709551616) fun x => e_if (Nat.ble (Nat.land x 9223372036854775807) 9218868437227405312) (nx l (.inr (.inr (.inr (.inl x))) :: s) h z c n) none
noncomputable def o_fdiv : Op := fun nx _ _ l s h z c n => e_pV s fun b s => e_vF b fun b => e_pV s fun a s => e_vF a fun a => e_force (Nat.mod (FP.Core.div FP.Core.b32 a b) 4294967296) fun x => e_if (Nat.ble (Nat.land x 2147483647) 2139095040) (nx l (.inr (.inr (.inr (.inr (.inl x)))) :: s) h z c n) none
/-- two numbers that are one and no NaN -/
noncomputable def o_dcmp : Op := fun nx _ _ l s h z c n => e_pV s fun b s => e_vD b fun b => e_pV s fun a s => e_vD a fun a => e_if (Option.rec (motive := fun _ => Bool) false (fun o => Ordering.rec (motive := fun _ => Bool) false true false o) (FP.Core.cmp FP.Core.b64 a b)) (nx l (.inl 0 :: s) h z c n) none
noncomputable def o_fcmp : Op := fun nx _ _ l s h z c n => e_pV s fun b s => e_vF b fun b => e_pV s fun a s => e_vF a fun a => e_if (Option.rec (motive := fun _ => Bool) false (fun o => Ordering.rec (motive := fun _ => Bool) false true false o) (FP.Core.cmp FP.Core.b32 a b)) (nx l (.inl 0 :: s) h z c n) none
/-- a call's end -/
noncomputable def e_back (r : RR) (kr : Option AV → AH → Nat → Nat → Nat → RR) (kx : Nat → AH → Nat → Nat → Nat → RR) : RR := Option.rec (motive := fun _ => RR) none (fun r => Prod.rec (motive := fun _ => RR) (fun o r => Prod.rec (motive := fun _ => RR) (fun h r => Prod.rec (motive := fun _ => RR) (fun z r => Prod.rec (motive := fun _ => RR) (fun c n => Sum.rec (motive := fun _ => RR) (fun w => Sum.rec (motive := fun _ => RR) (fun v => kr v h z c n) (fun e => kx e h z c n) w) (fun _ => none) o) r) r) r) r) r
theorem e_back_inv {q : RR} {kr : Option AV → AH → Nat → Nat → Nat → RR} {kx : Nat → AH → Nat → Nat → Nat → RR} {r : Rs} (hh : e_back q kr kx = some r) : (∃ v h z c n, q = some (.inl (.inl v), h, z, c, n) ∧ kr v h z c n = some r) ∨ (∃ e h z c n, q = some (.inl (.inr e), h, z, c, n) ∧ kx e h z c n = some r) := by
  rcases q with _ | ⟨o, h, z, c, n⟩
  · exact no_none hh
  · rcases o with (v | e) | _
    · exact Or.inl ⟨v, h, z, c, n, rfl, hh⟩
    · exact Or.inr ⟨e, h, z, c, n, rfl, hh⟩
    · exact no_none hh
noncomputable def e_push (v : Option AV) (s : List AV) : List AV := Option.rec (motive := fun _ => List AV) s (fun v => v :: s) v
/-- a call of the method y with k arguments, the receiver among them, of the kind ci -/
noncomputable def o_invV (y k ci : Nat) : Op := fun nx _ cal l s h z c n => e_take k s [] fun as s => e_if (Nat.ble (e_wt s) 8) (e_pR as fun a _ => e_obj h a ci fun _ => e_back (cal y as h z) (fun v h z c2 n2 => e_force (Nat.add c c2) fun c => e_force (Nat.add n n2) fun n => nx l (e_push v s) h z c n) (fun e h z c2 n2 => some (.inl (.inr e), h, z, Nat.add c c2, Nat.add n n2))) none
/-- .. of a constructor or a static method -/
noncomputable def o_invS (y k : Nat) : Op := fun nx _ cal l s h z c n => e_take k s [] fun as s => e_if (Nat.ble (e_wt s) 8) (e_back (cal y as h z) (fun v h z c2 n2 => e_force (Nat.add c c2) fun c => e_force (Nat.add n n2) fun n => nx l (e_push v s) h z c n) (fun e h z c2 n2 => some (.inl (.inr e), h, z, Nat.add c c2, Nat.add n n2))) none
noncomputable def o_invI (y k : Nat) : Op := fun nx _ cal l s h z c n => e_take k s [] fun as s => e_if (Nat.ble (e_wt s) 8) (e_pR as fun _ _ => e_back (cal y as h z) (fun v h z c2 n2 => e_force (Nat.add c c2) fun c => e_force (Nat.add n n2) fun n => nx l (e_push v s) h z c n) (fun e h z c2 n2 => some (.inl (.inr e), h, z, Nat.add c c2, Nat.add n n2))) none
/-- .. where what it throws is caught: the places of the handlers, by exceptions -/
noncomputable def e_asc (hs : List (Nat × Nat)) (e : Nat) (k : Nat → RR) : RR := List.rec (motive := fun _ => RR) none (fun q _ ih => Prod.rec (motive := fun _ => RR) (fun a t => e_if (Nat.beq a e) (k t) ih) q) hs
theorem e_asc_inv {hs : List (Nat × Nat)} {e : Nat} {k : Nat → RR} {r : Rs} (h : e_asc hs e k = some r) : ∃ t, (e, t) ∈ hs ∧ k t = some r := by
  induction hs with
  | nil => exact no_none h
  | cons q l ih =>
    obtain ⟨a, t⟩ := q
    rcases e_if_inv (show e_if (Nat.beq a e) (k t) (e_asc l e k) = some r from h) with ⟨h1, h2⟩ | ⟨-, h2⟩
    · have := Nat.eq_of_beq_eq_true h1
      subst this
      exact ⟨t, List.mem_cons_self, h2⟩
    · obtain ⟨t', h3, h4⟩ := ih h2
      exact ⟨t', List.mem_cons_of_mem _ h3, h4⟩
noncomputable def o_invX (y k ci : Nat) (hs : List (Nat × Nat)) : Op := fun nx jp cal l s h z c n => e_take k s [] fun as s => e_if (Nat.ble (e_wt s) 8) (e_pR as fun a _ => e_obj h a ci fun _ => e_back (cal y as h z) (fun v h z c2 n2 => e_force (Nat.add c c2) fun c => e_force (Nat.add n n2) fun n => nx l (e_push v s) h z c n) (fun e h z c2 n2 => e_asc hs e fun t => e_force (Nat.add c c2) fun c => e_force (Nat.add n n2) fun n => jp t l [.inr (.inr (.inr (.inr (.inr 1))))] h z c n)) none
noncomputable def o_oinit : Op := fun nx _ _ l s h z c n => e_pR s fun _ s => e_if (Nat.ble (e_wt s) 8) (nx l s h z c n) none
noncomputable def o_thr (e : Nat) : Op := fun _ _ _ _ s h z c n => e_if (Nat.ble (e_wt s) 8) (some (.inl (.inr e), h, z, Nat.succ c, Nat.add n 6)) none
noncomputable def o_iret : Op := fun _ _ _ _ s h z c n => e_pI s fun x t => e_nil t (some (.inl (.inl (some (.inl x))), h, z, c, n))
noncomputable def o_bret (m : Nat) : Op := fun _ _ _ _ s h z c n => e_pI s fun x t => e_if (Nat.ble x m) (e_nil t (some (.inl (.inl (some (.inl x))), h, z, c, n))) none
noncomputable def o_aret : Op := fun _ _ _ _ s h z c n => e_pR s fun x t => e_nil t (some (.inl (.inl (some (.inr (.inl (Nat.succ x))))), h, z, c, n))
noncomputable def o_lret : Op := fun _ _ _ _ s h z c n => e_pV s fun v t => e_vL v fun _ => e_nil t (some (.inl (.inl (some v)), h, z, c, n))
noncomputable def o_dret : Op := fun _ _ _ _ s h z c n => e_pV s fun v t => e_vD v fun _ => e_nil t (some (.inl (.inl (some v)), h, z, c, n))
noncomputable def o_fret : Op := fun _ _ _ _ s h z c n => e_pV s fun v t => e_vF v fun _ => e_nil t (some (.inl (.inl (some v)), h, z, c, n))
noncomputable def o_ret : Op := fun _ _ _ _ s h z c n => e_nil s (some (.inl (.inl none), h, z, c, n))
noncomputable def o_max : Op := fun nx _ _ l s h z c n => e_pI s fun b s => e_pI s fun a s => e_if (Nat.ble (e_wt s) 8) (e_if (Nat.ble (Nat.mod (Nat.add b 2147483648) 4294967296) (Nat.mod (Nat.add a 2147483648) 4294967296)) (nx l (.inl a :: s) h z c n) (nx l (.inl b :: s) h z c n)) none
/-- the script's int k -/
noncomputable def o_sat (k : Nat) : Op := fun nx _ _ l s h z c n => e_pI s fun i s => e_if (Nat.beq i k) (e_pV s fun v s => e_vS v fun x => e_if (Nat.beq x 0) (e_if (Nat.ble (e_wt s) 8) (nx l (.inr (.inr (.inr (.inr (.inr (Nat.add k 3))))) :: s) h z c n) none) none) none
/-- .. brought below m: it is v -/
noncomputable def o_some (k m v : Nat) : Op := fun nx _ _ l s h z c n => e_pI s fun i s => e_if (Nat.beq i m) (e_pV s fun w s => e_vS w fun x => e_if (Nat.beq x (Nat.add k 3)) (e_if (Nat.ble (e_wt s) 8) (nx l (.inl v :: s) h z c n) none) none) none
noncomputable def e_zero (xs : List Nat) : Bool := List.rec (motive := fun _ => Bool) true (fun x _ ih => Bool.rec (motive := fun _ => Bool) false ih (Nat.beq x 0)) xs
/-- 'isSolvedBackward' of a new object of values: true; its arrays hold L1 and L2 then -/
noncomputable def o_isb (L1 L2 : List Nat) (c2 n2 : Nat) : Op := fun nx _ _ l s h z c n => e_pR s fun a s => e_if (Nat.ble (e_wt s) 8) (e_obj h a 10 fun fs => e_pV fs fun v fs => e_vR v fun p => e_pV fs fun w fs => e_vR w fun q => e_pI fs fun x1 fs => e_pI fs fun x2 fs => e_pI fs fun x3 fs => e_pI fs fun x4 fs => e_pI fs fun x5 fs => e_pI fs fun x6 fs => e_nil fs (e_if (Nat.beq x1 7) (e_if (Nat.beq x2 7) (e_if (Nat.beq x3 0) (e_if (Nat.beq x4 0) (e_if (Nat.beq x5 50) (e_if (Nat.beq x6 30) (e_if (Bool.not (Nat.beq p q)) (e_arrD h p fun m xs => e_if (Nat.beq m 441) (e_if (e_zero xs) (e_arrD h q fun m ys => e_if (Nat.beq m 441) (e_if (e_zero ys) (e_hup h p (.inr (.inr (441, L1))) fun h => e_hup h q (.inr (.inr (441, L2))) fun h => e_force (Nat.add c c2) fun c => e_force (Nat.add n n2) fun n => nx l (.inl 1 :: s) h z c n) none) none) none) none) none) none) none) none) none) none) none)) none
/-! THE RUN -/
noncomputable def e_loop (code : List Op) (cal : Cal) (f : Nat) : List Op → Kt := Nat.rec (motive := fun _ => List Op → Kt) (fun pos l s h z c n => List.rec (motive := fun _ => RR) none (fun _ rest _ => some (.inr (rest.length, l, s), h, z, c, n)) pos) (fun _ ih pos l s h z c n => List.rec (motive := fun _ => RR) none (fun op rest _ => op (ih rest) (fun t => ih (e_drop code t)) cal l s h z c n) pos) f
noncomputable def e_fits {α : Type} (l : List α) (n : Nat) : Bool := List.rec (motive := fun _ => Nat → Bool) (fun n => Nat.beq n 0) (fun _ _ ih n => Nat.rec (motive := fun _ => Bool) false (fun m _ => ih m) n) l n
theorem e_fits_inv {α : Type} {l : List α} {n : Nat} (h : e_fits l n = true) : l.length = n := by
  induction l generalizing n with
  | nil => exact (Nat.eq_of_beq_eq_true h).symm
  | cons a t ih =>
    cases n with
    | zero => cases h
    | succ m => rw [List.length_cons, ih h]
/-- a method: its code, the variables beyond its arguments; its name, bytes, variables, what it answers, its table of handlers -/
abbrev En : Type := (List Op × List AV) × (MethodName × (ByteArray × (Nat × (Option FieldType × List (Nat × Nat × Nat × Nat)))))
noncomputable def e_exec (tab : List En) (d : Nat) : Cal := Nat.rec (motive := fun _ => Cal) (fun _ _ _ _ => none) (fun _ ih y as h z => Option.rec (motive := fun _ => RR) none (fun e => e_if (e_fits (e_locs as e.1.2) e.2.2.2.1) (e_loop e.1.1 ih 1000000 e.1.1 (e_locs as e.1.2) [] h z 0 0) none) (e_at tab y)) d
/-! the numbers -/
noncomputable def f_add (a b : Nat) : Nat := Nat.mod (Nat.add a b) 4294967296
noncomputable def f_sub (a b : Nat) : Nat := Nat.mod (Nat.add a (Nat.sub 4294967296 b)) 4294967296
noncomputable def f_mul (a b : Nat) : Nat := Nat.mod (Nat.mul a b) 4294967296
noncomputable def f_and (a b : Nat) : Nat := Nat.land a b
noncomputable def f_or (a b : Nat) : Nat := Nat.lor a b
noncomputable def f_shl (a b : Nat) : Nat := Nat.mod (Nat.mul a (Nat.pow 2 (Nat.mod b 32))) 4294967296
noncomputable def f_shr (a b : Nat) : Nat := Bool.rec (motive := fun _ => Nat) (Nat.sub 4294967295 (Nat.div (Nat.sub 4294967295 a) (Nat.pow 2 (Nat.mod b 32)))) (Nat.div a (Nat.pow 2 (Nat.mod b 32))) (Nat.ble a 2147483647)
noncomputable def f_neg (a : Nat) : Nat := Nat.mod (Nat.sub 4294967296 a) 4294967296
noncomputable def f_char (a : Nat) : Nat := Nat.mod a 65536
noncomputable def p_eq (a b : Nat) : Bool := Nat.beq a b
noncomputable def p_ne (a b : Nat) : Bool := Bool.not (Nat.beq a b)
noncomputable def p_le (a b : Nat) : Bool := Nat.ble (Nat.mod (Nat.add a 2147483648) 4294967296) (Nat.mod (Nat.add b 2147483648) 4294967296)
noncomputable def p_ge (a b : Nat) : Bool := Nat.ble (Nat.mod (Nat.add b 2147483648) 4294967296) (Nat.mod (Nat.add a 2147483648) 4294967296)
noncomputable def p_lt (a b : Nat) : Bool := Bool.not (Nat.ble (Nat.mod (Nat.add b 2147483648) 4294967296) (Nat.mod (Nat.add a 2147483648) 4294967296))
noncomputable def p_gt (a b : Nat) : Bool := Bool.not (Nat.ble (Nat.mod (Nat.add a 2147483648) 4294967296) (Nat.mod (Nat.add b 2147483648) 4294967296))
noncomputable def p_eq0 (a : Nat) : Bool := Nat.beq a 0
noncomputable def p_ne0 (a : Nat) : Bool := Bool.not (Nat.beq a 0)
noncomputable def p_lt0 (a : Nat) : Bool := Bool.not (Nat.ble a 2147483647)
noncomputable def p_ge0 (a : Nat) : Bool := Nat.ble a 2147483647
noncomputable def p_gt0 (a : Nat) : Bool := Bool.rec (motive := fun _ => Bool) (Nat.ble a 2147483647) false (Nat.beq a 0)
noncomputable def p_le0 (a : Nat) : Bool := Bool.rec (motive := fun _ => Bool) (Bool.not (Nat.ble a 2147483647)) true (Nat.beq a 0)
end
section
/-! names, fields: out of the text that TURN prints of the program (claim/NAMES.whole.lean.txt) -/
def RX0 : String := "Raidline$Auction"
def TX0 : u_T := fun k => match k with
  | 0 => ("Raidline$Auction", "player", "I", false)
  | 1 => ("Raidline$Auction", "bidder", "I", false)
  | 2 => ("Raidline$Auction", "price", "I", false)
  | _ => ("Raidline$Auction", "bids", "I", false)
def tyX0 : Nat → FieldType := fun k => match k with
  | 0 => .int
  | 1 => .int
  | 2 => .int
  | _ => .int
abbrev wsX00 : List Cond := u_ws RX0 TX0 4
theorem nmX0 : ∀ a, a < 4 → ∀ b, b < 4 → a ≠ b → (TX0 a).2.1 ≠ (TX0 b).2.1 := by decide +kernel
theorem tyX0_ok : ∀ k, k < 4 → parseFieldDescriptor (TX0 k).2.2.1 = some (tyX0 k) := by decide +kernel
abbrev cX0_init : ByteArray := prog_2_method_1_code
def yX0_init : MethodName := ⟨RX0, "<init>", "()V"⟩
abbrev cX0_isOpen : ByteArray := prog_2_method_2_code
def yX0_isOpen : MethodName := ⟨RX0, "isOpen", "()Z"⟩
abbrev cX0_open : ByteArray := prog_2_method_3_code
def yX0_open : MethodName := ⟨RX0, "open", "(I)V"⟩
abbrev cX0_take : ByteArray := prog_2_method_4_code
def yX0_take : MethodName := ⟨RX0, "take", "(II)V"⟩
abbrev cX0_close : ByteArray := prog_2_method_5_code
def yX0_close : MethodName := ⟨RX0, "close", "()V"⟩
def RX1 : String := "Raidline$Clubs"
def TX1 : u_T := fun k => match k with
  | 0 => ("Raidline$Clubs", "purses", "LRaidline$Row;", true)
  | 1 => ("Raidline$Clubs", "matched", "LRaidline$Row;", true)
  | 2 => ("Raidline$Clubs", "points", "LRaidline$Row;", true)
  | 3 => ("Raidline$Clubs", "differences", "LRaidline$Row;", true)
  | _ => ("Raidline$Clubs", "count", "I", false)
def tyX1 : Nat → FieldType := fun k => match k with
  | 0 => .object "Raidline$Row"
  | 1 => .object "Raidline$Row"
  | 2 => .object "Raidline$Row"
  | 3 => .object "Raidline$Row"
  | _ => .int
abbrev wsX10 : List Cond := u_ws RX1 TX1 5
theorem nmX1 : ∀ a, a < 5 → ∀ b, b < 5 → a ≠ b → (TX1 a).2.1 ≠ (TX1 b).2.1 := by decide +kernel
theorem tyX1_ok : ∀ k, k < 5 → parseFieldDescriptor (TX1 k).2.2.1 = some (tyX1 k) := by decide +kernel
abbrev cX1_init : ByteArray := prog_3_method_1_code
def yX1_init : MethodName := ⟨RX1, "<init>", "()V"⟩
abbrev cX1_enter : ByteArray := prog_3_method_2_code
def yX1_enter : MethodName := ⟨RX1, "enter", "()I"⟩
abbrev cX1_startAnew : ByteArray := prog_3_method_3_code
def yX1_startAnew : MethodName := ⟨RX1, "startAnew", "()V"⟩
abbrev cX1_enterResult : ByteArray := prog_3_method_4_code
def yX1_enterResult : MethodName := ⟨RX1, "enterResult", "(LRaidline$Side;LRaidline$Side;)V"⟩
abbrev cX1_squadAt : ByteArray := prog_3_method_5_code
def yX1_squadAt : MethodName := ⟨RX1, "squadAt", "(I)I"⟩
abbrev cX1_enterResultOf : ByteArray := prog_3_method_6_code
def yX1_enterResultOf : MethodName := ⟨RX1, "enterResultOf", "(II)V"⟩
abbrev cX1_placeOf : ByteArray := prog_3_method_7_code
def yX1_placeOf : MethodName := ⟨RX1, "placeOf", "(I)I"⟩
abbrev cX1_isBetter : ByteArray := prog_3_method_8_code
def yX1_isBetter : MethodName := ⟨RX1, "isBetter", "(II)Z"⟩
def RX2 : String := "Raidline$Edition"
def TX2 : u_T := fun k => match k with
  | 0 => ("Raidline$Edition", "standing", "I", false)
  | 1 => ("Raidline$Edition", "bonusFrom", "I", false)
  | 2 => ("Raidline$Edition", "isRevived", "Z", false)
  | _ => ("Raidline$Edition", "half", "I", false)
def tyX2 : Nat → FieldType := fun k => match k with
  | 0 => .int
  | 1 => .int
  | 2 => .boolean
  | _ => .int
abbrev wsX20 : List Cond := u_ws RX2 TX2 4
theorem nmX2 : ∀ a, a < 4 → ∀ b, b < 4 → a ≠ b → (TX2 a).2.1 ≠ (TX2 b).2.1 := by decide +kernel
theorem tyX2_ok : ∀ k, k < 4 → parseFieldDescriptor (TX2 k).2.2.1 = some (tyX2 k) := by decide +kernel
abbrev cX2_init : ByteArray := prog_4_method_1_code
def yX2_init : MethodName := ⟨RX2, "<init>", "()V"⟩
abbrev cX2_change : ByteArray := prog_4_method_2_code
def yX2_change : MethodName := ⟨RX2, "change", "(IIZI)V"⟩
def RX3 : String := "Raidline$Line"
def TX3 : u_T := fun k => match k with
  | 0 => ("Raidline$Line", "members", "[I", true)
  | _ => ("Raidline$Line", "count", "I", false)
def tyX3 : Nat → FieldType := fun k => match k with
  | 0 => .array .int
  | _ => .int
abbrev wsX30 : List Cond := u_ws RX3 TX3 2
theorem nmX3 : ∀ a, a < 2 → ∀ b, b < 2 → a ≠ b → (TX3 a).2.1 ≠ (TX3 b).2.1 := by decide +kernel
theorem tyX3_ok : ∀ k, k < 2 → parseFieldDescriptor (TX3 k).2.2.1 = some (tyX3 k) := by decide +kernel
abbrev cX3_init : ByteArray := prog_5_method_1_code
def yX3_init : MethodName := ⟨RX3, "<init>", "()V"⟩
abbrev cX3_at : ByteArray := prog_5_method_2_code
def yX3_at : MethodName := ⟨RX3, "at", "(I)I"⟩
abbrev cX3_has : ByteArray := prog_5_method_3_code
def yX3_has : MethodName := ⟨RX3, "has", "(I)Z"⟩
abbrev cX3_append : ByteArray := prog_5_method_4_code
def yX3_append : MethodName := ⟨RX3, "append", "(I)V"⟩
abbrev cX3_insertByNumber : ByteArray := prog_5_method_5_code
def yX3_insertByNumber : MethodName := ⟨RX3, "insertByNumber", "(I)V"⟩
abbrev cX3_remove : ByteArray := prog_5_method_6_code
def yX3_remove : MethodName := ⟨RX3, "remove", "(I)Z"⟩
abbrev cX3_clear : ByteArray := prog_5_method_7_code
def yX3_clear : MethodName := ⟨RX3, "clear", "()V"⟩
def RX4 : String := "Raidline$Match"
def TX4 : u_T := fun k => match k with
  | 0 => ("Raidline$Match", "first", "LRaidline$Side;", true)
  | 1 => ("Raidline$Match", "other", "LRaidline$Side;", true)
  | 2 => ("Raidline$Match", "greens", "LRaidline$Row;", true)
  | 3 => ("Raidline$Match", "sittings", "LRaidline$Row;", true)
  | 4 => ("Raidline$Match", "isOn", "Z", false)
  | 5 => ("Raidline$Match", "mustBeWon", "Z", false)
  | 6 => ("Raidline$Match", "half", "I", false)
  | 7 => ("Raidline$Match", "raidsOver", "I", false)
  | _ => ("Raidline$Match", "begun", "I", false)
def tyX4 : Nat → FieldType := fun k => match k with
  | 0 => .object "Raidline$Side"
  | 1 => .object "Raidline$Side"
  | 2 => .object "Raidline$Row"
  | 3 => .object "Raidline$Row"
  | 4 => .boolean
  | 5 => .boolean
  | 6 => .int
  | 7 => .int
  | _ => .int
abbrev wsX40 : List Cond := u_ws RX4 TX4 9
theorem nmX4 : ∀ a, a < 9 → ∀ b, b < 9 → a ≠ b → (TX4 a).2.1 ≠ (TX4 b).2.1 := by decide +kernel
theorem tyX4_ok : ∀ k, k < 9 → parseFieldDescriptor (TX4 k).2.2.1 = some (tyX4 k) := by decide +kernel
abbrev cX4_init : ByteArray := prog_6_method_1_code
def yX4_init : MethodName := ⟨RX4, "<init>", "()V"⟩
abbrev cX4_start : ByteArray := prog_6_method_2_code
def yX4_start : MethodName := ⟨RX4, "start", "(ZI)V"⟩
abbrev cX4_sideAt : ByteArray := prog_6_method_3_code
def yX4_sideAt : MethodName := ⟨RX4, "sideAt", "(I)LRaidline$Side;"⟩
abbrev cX4_sideOfSquad : ByteArray := prog_6_method_4_code
def yX4_sideOfSquad : MethodName := ⟨RX4, "sideOfSquad", "(I)LRaidline$Side;"⟩
abbrev cX4_sideWith : ByteArray := prog_6_method_5_code
def yX4_sideWith : MethodName := ⟨RX4, "sideWith", "(I)LRaidline$Side;"⟩
abbrev cX4_sideInTurn : ByteArray := prog_6_method_6_code
def yX4_sideInTurn : MethodName := ⟨RX4, "sideInTurn", "()I"⟩
abbrev cX4_raiders : ByteArray := prog_6_method_7_code
def yX4_raiders : MethodName := ⟨RX4, "raiders", "()LRaidline$Side;"⟩
abbrev cX4_defenders : ByteArray := prog_6_method_8_code
def yX4_defenders : MethodName := ⟨RX4, "defenders", "()LRaidline$Side;"⟩
abbrev cX4_lastRaiders : ByteArray := prog_6_method_9_code
def yX4_lastRaiders : MethodName := ⟨RX4, "lastRaiders", "()LRaidline$Side;"⟩
abbrev cX4_lastDefenders : ByteArray := prog_6_method_10_code
def yX4_lastDefenders : MethodName := ⟨RX4, "lastDefenders", "()LRaidline$Side;"⟩
abbrev cX4_isDecided : ByteArray := prog_6_method_11_code
def yX4_isDecided : MethodName := ⟨RX4, "isDecided", "()Z"⟩
abbrev cX4_sideOfRaid : ByteArray := prog_6_method_12_code
def yX4_sideOfRaid : MethodName := ⟨RX4, "sideOfRaid", "(I)I"⟩
def RX5 : String := "Raidline$Raid"
def TX5 : u_T := fun k => match k with
  | 0 => ("Raidline$Raid", "marks", "LRaidline$Row;", true)
  | 1 => ("Raidline$Raid", "isOn", "Z", false)
  | 2 => ("Raidline$Raid", "isDoOrDie", "Z", false)
  | 3 => ("Raidline$Raid", "isReturned", "Z", false)
  | 4 => ("Raidline$Raid", "isAllOut", "Z", false)
  | 5 => ("Raidline$Raid", "raider", "I", false)
  | 6 => ("Raidline$Raid", "stood", "I", false)
  | 7 => ("Raidline$Raid", "seconds", "I", false)
  | 8 => ("Raidline$Raid", "bonus", "I", false)
  | 9 => ("Raidline$Raid", "steps", "I", false)
  | _ => ("Raidline$Raid", "touches", "I", false)
def tyX5 : Nat → FieldType := fun k => match k with
  | 0 => .object "Raidline$Row"
  | 1 => .boolean
  | 2 => .boolean
  | 3 => .boolean
  | 4 => .boolean
  | 5 => .int
  | 6 => .int
  | 7 => .int
  | 8 => .int
  | 9 => .int
  | _ => .int
abbrev wsX50 : List Cond := u_ws RX5 TX5 11
theorem nmX5 : ∀ a, a < 11 → ∀ b, b < 11 → a ≠ b → (TX5 a).2.1 ≠ (TX5 b).2.1 := by decide +kernel
theorem tyX5_ok : ∀ k, k < 11 → parseFieldDescriptor (TX5 k).2.2.1 = some (tyX5 k) := by decide +kernel
abbrev cX5_init : ByteArray := prog_7_method_1_code
def yX5_init : MethodName := ⟨RX5, "<init>", "()V"⟩
abbrev cX5_forget : ByteArray := prog_7_method_2_code
def yX5_forget : MethodName := ⟨RX5, "forget", "()V"⟩
abbrev cX5_start : ByteArray := prog_7_method_3_code
def yX5_start : MethodName := ⟨RX5, "start", "(IIZ)V"⟩
abbrev cX5_hasBreathFor : ByteArray := prog_7_method_4_code
def yX5_hasBreathFor : MethodName := ⟨RX5, "hasBreathFor", "(I)Z"⟩
abbrev cX5_spend : ByteArray := prog_7_method_5_code
def yX5_spend : MethodName := ⟨RX5, "spend", "(I)I"⟩
abbrev cX5_brought : ByteArray := prog_7_method_6_code
def yX5_brought : MethodName := ⟨RX5, "brought", "()I"⟩
abbrev cX5_tacklePoints : ByteArray := prog_7_method_7_code
def yX5_tacklePoints : MethodName := ⟨RX5, "tacklePoints", "()I"⟩
abbrev cX5_isTouched : ByteArray := prog_7_method_8_code
def yX5_isTouched : MethodName := ⟨RX5, "isTouched", "(I)Z"⟩
abbrev cX5_isCalled : ByteArray := prog_7_method_9_code
def yX5_isCalled : MethodName := ⟨RX5, "isCalled", "(I)Z"⟩
abbrev cX5_isWrong : ByteArray := prog_7_method_10_code
def yX5_isWrong : MethodName := ⟨RX5, "isWrong", "(I)Z"⟩
abbrev cX5_isReviewable : ByteArray := prog_7_method_11_code
def yX5_isReviewable : MethodName := ⟨RX5, "isReviewable", "(I)Z"⟩
abbrev cX5_markTold : ByteArray := prog_7_method_12_code
def yX5_markTold : MethodName := ⟨RX5, "markTold", "(IZZ)V"⟩
abbrev cX5_markHeld : ByteArray := prog_7_method_13_code
def yX5_markHeld : MethodName := ⟨RX5, "markHeld", "(I)V"⟩
abbrev cX5_markReviewed : ByteArray := prog_7_method_14_code
def yX5_markReviewed : MethodName := ⟨RX5, "markReviewed", "(I)V"⟩
def RX6 : String := "Raidline$Roster"
def TX6 : u_T := fun k => match k with
  | 0 => ("Raidline$Roster", "reaches", "LRaidline$Row;", true)
  | 1 => ("Raidline$Roster", "speeds", "LRaidline$Row;", true)
  | 2 => ("Raidline$Roster", "grips", "LRaidline$Row;", true)
  | 3 => ("Raidline$Roster", "bases", "LRaidline$Row;", true)
  | 4 => ("Raidline$Roster", "squads", "LRaidline$Row;", true)
  | 5 => ("Raidline$Roster", "former", "LRaidline$Row;", true)
  | 6 => ("Raidline$Roster", "prices", "LRaidline$Row;", true)
  | _ => ("Raidline$Roster", "count", "I", false)
def tyX6 : Nat → FieldType := fun k => match k with
  | 0 => .object "Raidline$Row"
  | 1 => .object "Raidline$Row"
  | 2 => .object "Raidline$Row"
  | 3 => .object "Raidline$Row"
  | 4 => .object "Raidline$Row"
  | 5 => .object "Raidline$Row"
  | 6 => .object "Raidline$Row"
  | _ => .int
abbrev wsX60 : List Cond := u_ws RX6 TX6 8
theorem nmX6 : ∀ a, a < 8 → ∀ b, b < 8 → a ≠ b → (TX6 a).2.1 ≠ (TX6 b).2.1 := by decide +kernel
theorem tyX6_ok : ∀ k, k < 8 → parseFieldDescriptor (TX6 k).2.2.1 = some (tyX6 k) := by decide +kernel
abbrev cX6_init : ByteArray := prog_8_method_1_code
def yX6_init : MethodName := ⟨RX6, "<init>", "()V"⟩
abbrev cX6_enter : ByteArray := prog_8_method_2_code
def yX6_enter : MethodName := ⟨RX6, "enter", "(IIII)I"⟩
abbrev cX6_sizeOf : ByteArray := prog_8_method_3_code
def yX6_sizeOf : MethodName := ⟨RX6, "sizeOf", "(I)I"⟩
abbrev cX6_paidBy : ByteArray := prog_8_method_4_code
def yX6_paidBy : MethodName := ⟨RX6, "paidBy", "(I)I"⟩
abbrev cX6_strengthOf : ByteArray := prog_8_method_5_code
def yX6_strengthOf : MethodName := ⟨RX6, "strengthOf", "(I)I"⟩
abbrev cX6_raidingStrength : ByteArray := prog_8_method_6_code
def yX6_raidingStrength : MethodName := ⟨RX6, "raidingStrength", "(I)I"⟩
abbrev cX6_release : ByteArray := prog_8_method_7_code
def yX6_release : MethodName := ⟨RX6, "release", "()I"⟩
def RX7 : String := "Raidline$Row"
def TX7 : u_T := fun k => match k with
  | _ => ("Raidline$Row", "cells", "[I", true)
def tyX7 : Nat → FieldType := fun k => match k with
  | _ => .array .int
abbrev wsX70 : List Cond := u_ws RX7 TX7 1
theorem nmX7 : ∀ a, a < 1 → ∀ b, b < 1 → a ≠ b → (TX7 a).2.1 ≠ (TX7 b).2.1 := by decide +kernel
theorem tyX7_ok : ∀ k, k < 1 → parseFieldDescriptor (TX7 k).2.2.1 = some (tyX7 k) := by decide +kernel
abbrev cX7_init : ByteArray := prog_9_method_1_code
def yX7_init : MethodName := ⟨RX7, "<init>", "(I)V"⟩
abbrev cX7_get : ByteArray := prog_9_method_2_code
def yX7_get : MethodName := ⟨RX7, "get", "(I)I"⟩
abbrev cX7_set : ByteArray := prog_9_method_3_code
def yX7_set : MethodName := ⟨RX7, "set", "(II)V"⟩
abbrev cX7_add : ByteArray := prog_9_method_4_code
def yX7_add : MethodName := ⟨RX7, "add", "(II)V"⟩
abbrev cX7_fill : ByteArray := prog_9_method_5_code
def yX7_fill : MethodName := ⟨RX7, "fill", "(I)V"⟩
def RX8 : String := "Raidline$Side"
def TX8 : u_T := fun k => match k with
  | 0 => ("Raidline$Side", "mat", "LRaidline$Line;", true)
  | 1 => ("Raidline$Side", "out", "LRaidline$Line;", true)
  | 2 => ("Raidline$Side", "bench", "LRaidline$Line;", true)
  | 3 => ("Raidline$Side", "squad", "I", false)
  | 4 => ("Raidline$Side", "points", "I", false)
  | 5 => ("Raidline$Side", "emptyRaids", "I", false)
  | 6 => ("Raidline$Side", "changes", "I", false)
  | _ => ("Raidline$Side", "hasReview", "Z", false)
def tyX8 : Nat → FieldType := fun k => match k with
  | 0 => .object "Raidline$Line"
  | 1 => .object "Raidline$Line"
  | 2 => .object "Raidline$Line"
  | 3 => .int
  | 4 => .int
  | 5 => .int
  | 6 => .int
  | _ => .boolean
abbrev wsX80 : List Cond := u_ws RX8 TX8 8
theorem nmX8 : ∀ a, a < 8 → ∀ b, b < 8 → a ≠ b → (TX8 a).2.1 ≠ (TX8 b).2.1 := by decide +kernel
theorem tyX8_ok : ∀ k, k < 8 → parseFieldDescriptor (TX8 k).2.2.1 = some (tyX8 k) := by decide +kernel
abbrev cX8_init : ByteArray := prog_10_method_1_code
def yX8_init : MethodName := ⟨RX8, "<init>", "()V"⟩
abbrev cX8_lineUp : ByteArray := prog_10_method_2_code
def yX8_lineUp : MethodName := ⟨RX8, "lineUp", "(LRaidline$Roster;II)V"⟩
abbrev cX8_goOut : ByteArray := prog_10_method_3_code
def yX8_goOut : MethodName := ⟨RX8, "goOut", "(I)Z"⟩
abbrev cX8_comeOn : ByteArray := prog_10_method_4_code
def yX8_comeOn : MethodName := ⟨RX8, "comeOn", "(I)V"⟩
abbrev cX8_revive : ByteArray := prog_10_method_5_code
def yX8_revive : MethodName := ⟨RX8, "revive", "(I)V"⟩
abbrev cX8_isInPlay : ByteArray := prog_10_method_6_code
def yX8_isInPlay : MethodName := ⟨RX8, "isInPlay", "(I)Z"⟩
abbrev cX8_sendOff : ByteArray := prog_10_method_7_code
def yX8_sendOff : MethodName := ⟨RX8, "sendOff", "(I)V"⟩
abbrev cX8_change : ByteArray := prog_10_method_8_code
def yX8_change : MethodName := ⟨RX8, "change", "(II)V"⟩
abbrev cX8_placesOf : ByteArray := prog_10_method_9_code
def yX8_placesOf : MethodName := ⟨RX8, "placesOf", "(I)I"⟩
abbrev cX8_sumInto : ByteArray := prog_10_method_10_code
def yX8_sumInto : MethodName := ⟨RX8, "sumInto", "(J)J"⟩
def RX9 : String := "Raidline$Statistics"
def TX9 : u_T := fun k => match k with
  | 0 => ("Raidline$Statistics", "raidPoints", "LRaidline$Row;", true)
  | 1 => ("Raidline$Statistics", "tacklePoints", "LRaidline$Row;", true)
  | 2 => ("Raidline$Statistics", "superRaids", "LRaidline$Row;", true)
  | 3 => ("Raidline$Statistics", "raidsOf", "LRaidline$Row;", true)
  | 4 => ("Raidline$Statistics", "raids", "I", false)
  | 5 => ("Raidline$Statistics", "emptyRaids", "I", false)
  | _ => ("Raidline$Statistics", "points", "I", false)
def tyX9 : Nat → FieldType := fun k => match k with
  | 0 => .object "Raidline$Row"
  | 1 => .object "Raidline$Row"
  | 2 => .object "Raidline$Row"
  | 3 => .object "Raidline$Row"
  | 4 => .int
  | 5 => .int
  | _ => .int
abbrev wsX90 : List Cond := u_ws RX9 TX9 7
theorem nmX9 : ∀ a, a < 7 → ∀ b, b < 7 → a ≠ b → (TX9 a).2.1 ≠ (TX9 b).2.1 := by decide +kernel
theorem tyX9_ok : ∀ k, k < 7 → parseFieldDescriptor (TX9 k).2.2.1 = some (tyX9 k) := by decide +kernel
abbrev cX9_init : ByteArray := prog_11_method_1_code
def yX9_init : MethodName := ⟨RX9, "<init>", "()V"⟩
abbrev cX9_record : ByteArray := prog_11_method_2_code
def yX9_record : MethodName := ⟨RX9, "record", "(IIZ)V"⟩
def RX10 : String := "Raidline$Values"
def TX10 : u_T := fun k => match k with
  | 0 => ("Raidline$Values", "now", "[D", false)
  | 1 => ("Raidline$Values", "later", "[D", false)
  | 2 => ("Raidline$Values", "raiders", "I", false)
  | 3 => ("Raidline$Values", "defenders", "I", false)
  | 4 => ("Raidline$Values", "empty", "I", false)
  | 5 => ("Raidline$Values", "otherEmpty", "I", false)
  | 6 => ("Raidline$Values", "touch", "I", false)
  | _ => ("Raidline$Values", "caught", "I", false)
def tyX10 : Nat → FieldType := fun k => match k with
  | 0 => .array .double
  | 1 => .array .double
  | 2 => .int
  | 3 => .int
  | 4 => .int
  | 5 => .int
  | 6 => .int
  | _ => .int
abbrev wsX100 : List Cond := u_ws RX10 TX10 8
theorem nmX10 : ∀ a, a < 8 → ∀ b, b < 8 → a ≠ b → (TX10 a).2.1 ≠ (TX10 b).2.1 := by decide +kernel
theorem tyX10_ok : ∀ k, k < 8 → parseFieldDescriptor (TX10 k).2.2.1 = some (tyX10 k) := by decide +kernel
abbrev cX10_init : ByteArray := prog_12_method_1_code
def yX10_init : MethodName := ⟨RX10, "<init>", "()V"⟩
abbrev cX10_solveBackward : ByteArray := prog_12_method_4_code
def yX10_solveBackward : MethodName := ⟨RX10, "solveBackward", "(I)D"⟩
abbrev cX10_isSolvedBackward : ByteArray := prog_12_method_5_code
def yX10_isSolvedBackward : MethodName := ⟨RX10, "isSolvedBackward", "()Z"⟩
abbrev cX10_solveOneMore : ByteArray := prog_12_method_6_code
def yX10_solveOneMore : MethodName := ⟨RX10, "solveOneMore", "()V"⟩
abbrev cX10_solvePair : ByteArray := prog_12_method_7_code
def yX10_solvePair : MethodName := ⟨RX10, "solvePair", "(II)V"⟩
abbrev cX10_lookAhead : ByteArray := prog_12_method_8_code
def yX10_lookAhead : MethodName := ⟨RX10, "lookAhead", "(IIIII)D"⟩
abbrev cX10_pair : ByteArray := prog_12_method_9_code
def yX10_pair : MethodName := ⟨RX10, "pair", "(II)I"⟩
abbrev cX10_chance : ByteArray := prog_12_method_10_code
def yX10_chance : MethodName := ⟨RX10, "chance", "(I)D"⟩
abbrev cX10_touchGain : ByteArray := prog_12_method_11_code
def yX10_touchGain : MethodName := ⟨RX10, "touchGain", "(I)I"⟩
abbrev cX10_caughtLoss : ByteArray := prog_12_method_12_code
def yX10_caughtLoss : MethodName := ⟨RX10, "caughtLoss", "(II)I"⟩
abbrev cX10_doOrDieLoss : ByteArray := prog_12_method_13_code
def yX10_doOrDieLoss : MethodName := ⟨RX10, "doOrDieLoss", "(I)I"⟩
abbrev cX10_raidersBehindTouch : ByteArray := prog_12_method_14_code
def yX10_raidersBehindTouch : MethodName := ⟨RX10, "raidersBehindTouch", "(I)I"⟩
abbrev cX10_defendersBehindTouch : ByteArray := prog_12_method_15_code
def yX10_defendersBehindTouch : MethodName := ⟨RX10, "defendersBehindTouch", "(I)I"⟩
abbrev cX10_raidersBehindOut : ByteArray := prog_12_method_16_code
def yX10_raidersBehindOut : MethodName := ⟨RX10, "raidersBehindOut", "(I)I"⟩
abbrev cX10_defendersBehindOut : ByteArray := prog_12_method_17_code
def yX10_defendersBehindOut : MethodName := ⟨RX10, "defendersBehindOut", "(I)I"⟩
abbrev cX10_keep : ByteArray := prog_12_method_18_code
def yX10_keep : MethodName := ⟨RX10, "keep", "(ID)V"⟩
abbrev cX10_read : ByteArray := prog_12_method_19_code
def yX10_read : MethodName := ⟨RX10, "read", "([DI)D"⟩
def RX11 : String := "Raidline"
def TX11 : u_T := fun k => match k with
  | 0 => ("Raidline", "roster", "LRaidline$Roster;", true)
  | 1 => ("Raidline", "clubs", "LRaidline$Clubs;", true)
  | 2 => ("Raidline", "auction", "LRaidline$Auction;", true)
  | 3 => ("Raidline", "rules", "LRaidline$Edition;", true)
  | 4 => ("Raidline", "match", "LRaidline$Match;", true)
  | 5 => ("Raidline", "raid", "LRaidline$Raid;", true)
  | 6 => ("Raidline", "statistics", "LRaidline$Statistics;", true)
  | _ => ("Raidline", "values", "LRaidline$Values;", true)
def tyX11 : Nat → FieldType := fun k => match k with
  | 0 => .object "Raidline$Roster"
  | 1 => .object "Raidline$Clubs"
  | 2 => .object "Raidline$Auction"
  | 3 => .object "Raidline$Edition"
  | 4 => .object "Raidline$Match"
  | 5 => .object "Raidline$Raid"
  | 6 => .object "Raidline$Statistics"
  | _ => .object "Raidline$Values"
abbrev wsX110 : List Cond := u_ws RX11 TX11 8
theorem nmX11 : ∀ a, a < 8 → ∀ b, b < 8 → a ≠ b → (TX11 a).2.1 ≠ (TX11 b).2.1 := by decide +kernel
theorem tyX11_ok : ∀ k, k < 8 → parseFieldDescriptor (TX11 k).2.2.1 = some (tyX11 k) := by decide +kernel
abbrev cX11_init : ByteArray := prog_1_method_1_code
def yX11_init : MethodName := ⟨RX11, "<init>", "()V"⟩
abbrev cX11_player : ByteArray := prog_1_method_2_code
def yX11_player : MethodName := ⟨RX11, "player", "(IIIC)I"⟩
abbrev cX11_squad : ByteArray := prog_1_method_3_code
def yX11_squad : MethodName := ⟨RX11, "squad", "()I"⟩
abbrev cX11_needPlayer : ByteArray := prog_1_method_4_code
def yX11_needPlayer : MethodName := ⟨RX11, "needPlayer", "(I)V"⟩
abbrev cX11_needSquad : ByteArray := prog_1_method_5_code
def yX11_needSquad : MethodName := ⟨RX11, "needSquad", "(I)V"⟩
abbrev cX11_isAbility : ByteArray := prog_1_method_6_code
def yX11_isAbility : MethodName := ⟨RX11, "isAbility", "(I)Z"⟩
abbrev cX11_baseOf : ByteArray := prog_1_method_7_code
def yX11_baseOf : MethodName := ⟨RX11, "baseOf", "(C)I"⟩
abbrev cX11_putUp : ByteArray := prog_1_method_8_code
def yX11_putUp : MethodName := ⟨RX11, "putUp", "(I)I"⟩
abbrev cX11_bid : ByteArray := prog_1_method_9_code
def yX11_bid : MethodName := ⟨RX11, "bid", "(II)I"⟩
abbrev cX11_match : ByteArray := prog_1_method_10_code
def yX11_match : MethodName := ⟨RX11, "match", "(I)I"⟩
abbrev cX11_knockDown : ByteArray := prog_1_method_11_code
def yX11_knockDown : MethodName := ⟨RX11, "knockDown", "()I"⟩
abbrev cX11_squadOf : ByteArray := prog_1_method_12_code
def yX11_squadOf : MethodName := ⟨RX11, "squadOf", "(I)I"⟩
abbrev cX11_purse : ByteArray := prog_1_method_13_code
def yX11_purse : MethodName := ⟨RX11, "purse", "(I)I"⟩
abbrev cX11_season : ByteArray := prog_1_method_14_code
def yX11_season : MethodName := ⟨RX11, "season", "()I"⟩
abbrev cX11_lowestBid : ByteArray := prog_1_method_15_code
def yX11_lowestBid : MethodName := ⟨RX11, "lowestBid", "()I"⟩
abbrev cX11_canTake : ByteArray := prog_1_method_16_code
def yX11_canTake : MethodName := ⟨RX11, "canTake", "(II)Z"⟩
abbrev cX11_mayMatch : ByteArray := prog_1_method_17_code
def yX11_mayMatch : MethodName := ⟨RX11, "mayMatch", "(I)Z"⟩
abbrev cX11_sell : ByteArray := prog_1_method_18_code
def yX11_sell : MethodName := ⟨RX11, "sell", "(III)V"⟩
abbrev cX11_edition : ByteArray := prog_1_method_19_code
def yX11_edition : MethodName := ⟨RX11, "edition", "(IIZI)I"⟩
abbrev cX11_begin : ByteArray := prog_1_method_20_code
def yX11_begin : MethodName := ⟨RX11, "begin", "(IIZ)I"⟩
abbrev cX11_turn : ByteArray := prog_1_method_21_code
def yX11_turn : MethodName := ⟨RX11, "turn", "()I"⟩
abbrev cX11_raids : ByteArray := prog_1_method_22_code
def yX11_raids : MethodName := ⟨RX11, "raids", "()I"⟩
abbrev cX11_points : ByteArray := prog_1_method_23_code
def yX11_points : MethodName := ⟨RX11, "points", "(I)I"⟩
abbrev cX11_onMat : ByteArray := prog_1_method_24_code
def yX11_onMat : MethodName := ⟨RX11, "onMat", "(I)I"⟩
abbrev cX11_matAt : ByteArray := prog_1_method_25_code
def yX11_matAt : MethodName := ⟨RX11, "matAt", "(II)I"⟩
abbrev cX11_outAt : ByteArray := prog_1_method_26_code
def yX11_outAt : MethodName := ⟨RX11, "outAt", "(II)I"⟩
abbrev cX11_benchAt : ByteArray := prog_1_method_27_code
def yX11_benchAt : MethodName := ⟨RX11, "benchAt", "(II)I"⟩
abbrev cX11_goesOn : ByteArray := prog_1_method_28_code
def yX11_goesOn : MethodName := ⟨RX11, "goesOn", "()Z"⟩
abbrev cX11_needSide : ByteArray := prog_1_method_29_code
def yX11_needSide : MethodName := ⟨RX11, "needSide", "(I)V"⟩
abbrev cX11_playingSide : ByteArray := prog_1_method_30_code
def yX11_playingSide : MethodName := ⟨RX11, "playingSide", "(I)LRaidline$Side;"⟩
abbrev cX11_present : ByteArray := prog_1_method_31_code
def yX11_present : MethodName := ⟨RX11, "present", "(I)I"⟩
abbrev cX11_raid : ByteArray := prog_1_method_32_code
def yX11_raid : MethodName := ⟨RX11, "raid", "(I)Z"⟩
abbrev cX11_touch : ByteArray := prog_1_method_33_code
def yX11_touch : MethodName := ⟨RX11, "touch", "(IZZ)I"⟩
abbrev cX11_bonus : ByteArray := prog_1_method_34_code
def yX11_bonus : MethodName := ⟨RX11, "bonus", "()I"⟩
abbrev cX11_struggle : ByteArray := prog_1_method_35_code
def yX11_struggle : MethodName := ⟨RX11, "struggle", "(I)I"⟩
abbrev cX11_stepOut : ByteArray := prog_1_method_36_code
def yX11_stepOut : MethodName := ⟨RX11, "stepOut", "(I)I"⟩
abbrev cX11_comeBack : ByteArray := prog_1_method_37_code
def yX11_comeBack : MethodName := ⟨RX11, "comeBack", "()I"⟩
abbrev cX11_needRaid : ByteArray := prog_1_method_38_code
def yX11_needRaid : MethodName := ⟨RX11, "needRaid", "()V"⟩
abbrev cX11_needPause : ByteArray := prog_1_method_39_code
def yX11_needPause : MethodName := ⟨RX11, "needPause", "()V"⟩
abbrev cX11_holdingStrength : ByteArray := prog_1_method_40_code
def yX11_holdingStrength : MethodName := ⟨RX11, "holdingStrength", "(ILRaidline$Line;)I"⟩
abbrev cX11_creditTacklers : ByteArray := prog_1_method_41_code
def yX11_creditTacklers : MethodName := ⟨RX11, "creditTacklers", "(ILRaidline$Line;)V"⟩
abbrev cX11_loseRaider : ByteArray := prog_1_method_42_code
def yX11_loseRaider : MethodName := ⟨RX11, "loseRaider", "()V"⟩
abbrev cX11_bringHome : ByteArray := prog_1_method_43_code
def yX11_bringHome : MethodName := ⟨RX11, "bringHome", "()V"⟩
abbrev cX11_takeTouched : ByteArray := prog_1_method_44_code
def yX11_takeTouched : MethodName := ⟨RX11, "takeTouched", "(LRaidline$Side;LRaidline$Side;)V"⟩
abbrev cX11_closeRaid : ByteArray := prog_1_method_45_code
def yX11_closeRaid : MethodName := ⟨RX11, "closeRaid", "(IIIZ)V"⟩
abbrev cX11_endSittings : ByteArray := prog_1_method_46_code
def yX11_endSittings : MethodName := ⟨RX11, "endSittings", "()V"⟩
abbrev cX11_allOut : ByteArray := prog_1_method_47_code
def yX11_allOut : MethodName := ⟨RX11, "allOut", "(LRaidline$Side;LRaidline$Side;)I"⟩
abbrev cX11_card : ByteArray := prog_1_method_48_code
def yX11_card : MethodName := ⟨RX11, "card", "(IC)C"⟩
abbrev cX11_substitute : ByteArray := prog_1_method_49_code
def yX11_substitute : MethodName := ⟨RX11, "substitute", "(II)I"⟩
abbrev cX11_review : ByteArray := prog_1_method_50_code
def yX11_review : MethodName := ⟨RX11, "review", "(II)Z"⟩
abbrev cX11_wouldEmptyMat : ByteArray := prog_1_method_51_code
def yX11_wouldEmptyMat : MethodName := ⟨RX11, "wouldEmptyMat", "(I)Z"⟩
abbrev cX11_putRight : ByteArray := prog_1_method_52_code
def yX11_putRight : MethodName := ⟨RX11, "putRight", "(I)V"⟩
abbrev cX11_told : ByteArray := prog_1_method_53_code
def yX11_told : MethodName := ⟨RX11, "told", "(IC)I"⟩
abbrev cX11_emptyShare : ByteArray := prog_1_method_55_code
def yX11_emptyShare : MethodName := ⟨RX11, "emptyShare", "()F"⟩
abbrev cX11_meanPoints : ByteArray := prog_1_method_56_code
def yX11_meanPoints : MethodName := ⟨RX11, "meanPoints", "()D"⟩
abbrev cX11_league : ByteArray := prog_1_method_57_code
def yX11_league : MethodName := ⟨RX11, "league", "(I)I"⟩
abbrev cX11_placed : ByteArray := prog_1_method_58_code
def yX11_placed : MethodName := ⟨RX11, "placed", "(I)I"⟩
abbrev cX11_champion : ByteArray := prog_1_method_59_code
def yX11_champion : MethodName := ⟨RX11, "champion", "()I"⟩
abbrev cX11_stronger : ByteArray := prog_1_method_60_code
def yX11_stronger : MethodName := ⟨RX11, "stronger", "(II)I"⟩
abbrev cX11_checksum : ByteArray := prog_1_method_61_code
def yX11_checksum : MethodName := ⟨RX11, "checksum", "()J"⟩
abbrev cX11_isTrue : ByteArray := prog_1_method_62_code
def yX11_isTrue : MethodName := ⟨RX11, "isTrue", "()Z"⟩
abbrev cX11_isEachInOnePlace : ByteArray := prog_1_method_63_code
def yX11_isEachInOnePlace : MethodName := ⟨RX11, "isEachInOnePlace", "()Z"⟩
abbrev cX11_isEachInOneSquad : ByteArray := prog_1_method_64_code
def yX11_isEachInOneSquad : MethodName := ⟨RX11, "isEachInOneSquad", "()Z"⟩
abbrev cX11_arePursesRight : ByteArray := prog_1_method_65_code
def yX11_arePursesRight : MethodName := ⟨RX11, "arePursesRight", "()Z"⟩
def RL : String := "RaidlineLaw"
abbrev cL_at : ByteArray := method_2_code
def yL_at : MethodName := ⟨RL, "at", "([II)I"⟩
abbrev cL_some : ByteArray := method_3_code
def yL_some : MethodName := ⟨RL, "some", "(II)I"⟩
abbrev cL_ask : ByteArray := method_4_code
def yL_ask : MethodName := ⟨RL, "ask", "(LRaidline;C[I)I"⟩
abbrev cL_hasNone : ByteArray := method_5_code
def yL_hasNone : MethodName := ⟨RL, "hasNone", "(LRaidline;Z)Z"⟩
abbrev cL_law : ByteArray := code
def yL_law : MethodName := ⟨RL, "law", "([I)Z"⟩
abbrev cL_begin : ByteArray := method_7_code
def yL_begin : MethodName := ⟨RL, "begin", "(LRaidline;II)Z"⟩
abbrev cL_cards : ByteArray := method_8_code
def yL_cards : MethodName := ⟨RL, "cards", "([I)Z"⟩
abbrev cL_reviews : ByteArray := method_9_code
def yL_reviews : MethodName := ⟨RL, "reviews", "([I)Z"⟩
abbrev cL_empties : ByteArray := method_10_code
def yL_empties : MethodName := ⟨RL, "empties", "([I)Z"⟩
end
section
/-! WHAT THE EVALUATOR'S STATES MEAN OF THE MACHINE'S -/
abbrev ev_cl : List vw_C := [(RX0, TX0, 4), (RX1, TX1, 5), (RX2, TX2, 4), (RX3, TX3, 2), (RX4, TX4, 9), (RX5, TX5, 11), (RX6, TX6, 8), (RX7, TX7, 1), (RX8, TX8, 8), (RX9, TX9, 7), (RX10, TX10, 8), (RX11, TX11, 8)]
/-- the words that any tables keep -/
noncomputable def ev_G : List Cond := lw_tbl.filter goodWord
def ev_nk : Cond → Bool
  | .fieldLinkNest .. => true
  | .methodLinkNest .. => true
  | .declares .. => true
  | .castable .. => true
  | _ => false
/-- .. those that are moved by name -/
noncomputable def ev_N : List Cond := lw_tbl.filter ev_nk
/-- exceptions, and handlers that don't take them -/
def ev_nc : List (String × String) := [("java/lang/IllegalArgumentException", "java/lang/IndexOutOfBoundsException"), ("java/lang/IllegalStateException", "java/lang/IndexOutOfBoundsException"), ("java/lang/IllegalStateException", "java/lang/IllegalArgumentException"), ("java/lang/UnsupportedOperationException", "java/lang/IndexOutOfBoundsException"), ("java/lang/UnsupportedOperationException", "java/lang/IllegalArgumentException"), ("java/lang/UnsupportedOperationException", "java/lang/IllegalStateException"), ("java/util/NoSuchElementException", "java/lang/IndexOutOfBoundsException"), ("java/util/NoSuchElementException", "java/lang/IllegalArgumentException"), ("java/util/NoSuchElementException", "java/lang/IllegalStateException"), ("java/util/NoSuchElementException", "java/lang/UnsupportedOperationException")]
def ev_ex : List String := ["java/lang/IndexOutOfBoundsException", "java/lang/IllegalArgumentException", "java/lang/IllegalStateException", "java/lang/UnsupportedOperationException", "java/util/NoSuchElementException", "java/lang/ArithmeticException"]
/-- a walk: the machine's run, the method's invocation, the script and the world -/
abbrev Yt : Type := (Nat × (Nat × (Nat → Int32))) × (va_G × (ClassId × (ClassId × ((Nat → Prop) × ((Nat → Prop) × List Nat)))))
abbrev Gm : Type := (Program × (Launch × (Env × (Room × State)))) × ((MethodId × (Array Value × (List Frame × (Method × Code)))) × Yt)
abbrev gp (G : Gm) : Program := G.1.1
abbrev gl (G : Gm) : Launch := G.1.2.1
abbrev ge (G : Gm) : Env := G.1.2.2.1
abbrev gR (G : Gm) : Room := G.1.2.2.2.1
abbrev gs (G : Gm) : State := G.1.2.2.2.2
abbrev gm (G : Gm) : MethodId := G.2.1.1
abbrev ga (G : Gm) : Array Value := G.2.1.2.1
abbrev gb (G : Gm) : List Frame := G.2.1.2.2.1
abbrev gk (G : Gm) : Method := G.2.1.2.2.2.1
abbrev gc (G : Gm) : Code := G.2.1.2.2.2.2
/-- the script: its cell, its length, its ints -/
abbrev gX (G : Gm) : Nat × (Nat × (Nat → Int32)) := G.2.2.1
abbrev gD (G : Gm) : va_G := G.2.2.2.1
abbrev gAi (G : Gm) : ClassId := G.2.2.2.2.1
abbrev gAd (G : Gm) : ClassId := G.2.2.2.2.2.1
/-- the cells that the law makes; those that this method may change; the world's addresses at its entry -/
abbrev gA0 (G : Gm) : Nat → Prop := G.2.2.2.2.2.2.1
abbrev gA (G : Gm) : Nat → Prop := G.2.2.2.2.2.2.2.1
abbrev gr (G : Gm) : List Nat := G.2.2.2.2.2.2.2.2
abbrev gW (G : Gm) (H : Heap) (locs : List Loc) (cells slots : Nat) (Q : State → Prop) (g : JFrame) : Prop := W (gp G) (gl G) (ge G) (gR G) (gs G) (gm G) (ga G) (gb G) (gk G) (gc G) H locs cells slots Q g
def xAt (X : Nat × (Nat × (Nat → Int32))) (k : Nat) : Int32 := if k < X.2.1 then X.2.2 k else 0
def rv (X : Nat × (Nat × (Nat → Int32))) (ρ : List Nat) (v : AV) (V : Value) : Prop := match v with
  | .inl n => n < 4294967296 ∧ V = .int (nI n)
  | .inr (.inl 0) => V = .null
  | .inr (.inl (k + 1)) => ∃ a : Nat, ρ[k]? = some a ∧ V = .ref a
  | .inr (.inr (.inl n)) => n < 18446744073709551616 ∧ V = .long (lN n)
  | .inr (.inr (.inr (.inl n))) => n < 18446744073709551616 ∧ V = .double (UInt64.ofNat n)
  | .inr (.inr (.inr (.inr (.inl n)))) => n < 4294967296 ∧ V = .float (UInt32.ofNat n)
  | .inr (.inr (.inr (.inr (.inr 0)))) => V = .ref X.1
  | .inr (.inr (.inr (.inr (.inr 1)))) => ∃ a : Nat, V = .ref a
  | .inr (.inr (.inr (.inr (.inr 2)))) => False
  | .inr (.inr (.inr (.inr (.inr (k + 3))))) => V = .int (xAt X k)
def vl (X : Nat × (Nat × (Nat → Int32))) (ρ : List Nat) : List AV → List Value → Prop
  | [], [] => True
  | v :: t, V :: T => rv X ρ v V ∧ vl X ρ t T
  | _, _ => False
theorem vl_cons {X : Nat × (Nat × (Nat → Int32))} {ρ : List Nat} {v : AV} {t : List AV} {Vs : List Value} (h : vl X ρ (v :: t) Vs) : ∃ V T, Vs = V :: T ∧ rv X ρ v V ∧ vl X ρ t T := by
  cases Vs with
  | nil => exact absurd h (by simp [vl])
  | cons V T => exact ⟨V, T, rfl, h⟩
theorem vl_nil {X : Nat × (Nat × (Nat → Int32))} {ρ : List Nat} {Vs : List Value} (h : vl X ρ [] Vs) : Vs = [] := by
  cases Vs with
  | nil => rfl
  | cons V T => exact absurd h (by simp [vl])
theorem vl_int {X : Nat × (Nat × (Nat → Int32))} {ρ : List Nat} {n : Nat} {t : List AV} {Vs : List Value} (h : vl X ρ (.inl n :: t) Vs) : ∃ T, Vs = .int (nI n) :: T ∧ n < 4294967296 ∧ vl X ρ t T := by
  obtain ⟨V, T, rfl, ⟨h1, rfl⟩, h2⟩ := vl_cons h
  exact ⟨T, rfl, h1, h2⟩
theorem vl_ref {X : Nat × (Nat × (Nat → Int32))} {ρ : List Nat} {n : Nat} {t : List AV} {Vs : List Value} (h : vl X ρ (.inr (.inl (n + 1)) :: t) Vs) : ∃ a T, Vs = .ref a :: T ∧ ρ[n]? = some a ∧ vl X ρ t T := by
  obtain ⟨V, T, rfl, ⟨a, h1, rfl⟩, h2⟩ := vl_cons h
  exact ⟨a, T, rfl, h1, h2⟩
theorem vl_app {X : Nat × (Nat × (Nat → Int32))} {ρ : List Nat} {a t : List AV} {Vs : List Value} (h : vl X ρ (a ++ t) Vs) : ∃ A T, Vs = A ++ T ∧ vl X ρ a A ∧ vl X ρ t T := by
  induction a generalizing Vs with
  | nil => exact ⟨[], Vs, rfl, trivial, h⟩
  | cons v a ih =>
    obtain ⟨V, T, rfl, h1, h2⟩ := vl_cons (show vl X ρ (v :: (a ++ t)) Vs from h)
    obtain ⟨A, T2, rfl, h3, h4⟩ := ih h2
    exact ⟨V :: A, T2, rfl, ⟨h1, h3⟩, h4⟩
theorem vl_join {X : Nat × (Nat × (Nat → Int32))} {ρ : List Nat} {a t : List AV} {A T : List Value} (h1 : vl X ρ a A) (h2 : vl X ρ t T) : vl X ρ (a ++ t) (A ++ T) := by
  induction a generalizing A with
  | nil => rw [vl_nil h1]; exact h2
  | cons v a ih =>
    obtain ⟨V, B, rfl, h3, h4⟩ := vl_cons h1
    exact ⟨h3, ih h4⟩
theorem vl_rev {X : Nat × (Nat × (Nat → Int32))} {ρ : List Nat} {a : List AV} {A : List Value} (h : vl X ρ a A) : vl X ρ a.reverse A.reverse := by
  induction a generalizing A with
  | nil => rw [vl_nil h]; trivial
  | cons v a ih =>
    obtain ⟨V, B, rfl, h3, h4⟩ := vl_cons h
    rw [List.reverse_cons, List.reverse_cons]
    exact vl_join (ih h4) ⟨h3, trivial⟩
theorem vl_len {X : Nat × (Nat × (Nat → Int32))} {ρ : List Nat} {a : List AV} {A : List Value} (h : vl X ρ a A) : A.length = a.length := by
  induction a generalizing A with
  | nil => rw [vl_nil h]; rfl
  | cons v a ih =>
    obtain ⟨V, B, rfl, h3, h4⟩ := vl_cons h
    simp [ih h4]
theorem rv_more {X : Nat × (Nat × (Nat → Int32))} {ρ t : List Nat} {v : AV} {V : Value} (h : rv X ρ v V) : rv X (ρ ++ t) v V := by
  rcases v with n | (_ | k) | n | n | n | (_ | _ | _ | k)
  · exact h
  · exact h
  · obtain ⟨a, h1, h2⟩ := h
    exact ⟨a, by rw [List.getElem?_append_left (List.getElem?_eq_some_iff.mp h1).1]; exact h1, h2⟩
  · exact h
  · exact h
  · exact h
  · exact h
  · exact h
  · exact h
  · exact h
theorem vl_more {X : Nat × (Nat × (Nat → Int32))} {ρ t : List Nat} {a : List AV} {A : List Value} (h : vl X ρ a A) : vl X (ρ ++ t) a A := by
  induction a generalizing A with
  | nil => rw [vl_nil h]; trivial
  | cons v a ih =>
    obtain ⟨V, B, rfl, h3, h4⟩ := vl_cons h
    exact ⟨rv_more h3, ih h4⟩
theorem vl_at {X : Nat × (Nat × (Nat → Int32))} {ρ : List Nat} {a : List AV} {A : List Value} {k : Nat} {v : AV} (h : vl X ρ a A) (hk : a[k]? = some v) : ∃ V, A[k]? = some V ∧ rv X ρ v V := by
  induction a generalizing A k with
  | nil => simp at hk
  | cons u a ih =>
    obtain ⟨V, B, rfl, h3, h4⟩ := vl_cons h
    cases k with
    | zero =>
      rw [List.getElem?_cons_zero] at hk
      cases hk
      exact ⟨V, rfl, h3⟩
    | succ k =>
      rw [List.getElem?_cons_succ] at hk
      obtain ⟨W, h5, h6⟩ := ih h4 hk
      exact ⟨W, by rw [List.getElem?_cons_succ]; exact h5, h6⟩
theorem vl_set {X : Nat × (Nat × (Nat → Int32))} {ρ : List Nat} {a : List AV} {A : List Value} {k : Nat} {v : AV} {V : Value} (h : vl X ρ a A) (hv : rv X ρ v V) : vl X ρ (a.set k v) (A.set k V) := by
  induction a generalizing A k with
  | nil => rw [vl_nil h]; trivial
  | cons u a ih =>
    obtain ⟨U, B, rfl, h3, h4⟩ := vl_cons h
    cases k with
    | zero => exact ⟨hv, h4⟩
    | succ k => exact ⟨h3, ih h4⟩
/-- how wide a value is -/
theorem rv_one {X : Nat × (Nat × (Nat → Int32))} {ρ : List Nat} {v : AV} {V : Value} (h : rv X ρ v V) (h1 : e_one v = true) : V.category = 1 := by
  rcases v with n | (_ | k) | n | n | n | (_ | _ | _ | k)
  · rw [h.2]; rfl
  · rw [show V = .null from h]; rfl
  · obtain ⟨a, -, rfl⟩ := h; rfl
  · cases h1
  · cases h1
  · rw [h.2]; rfl
  · rw [show V = .ref X.1 from h]; rfl
  · obtain ⟨a, rfl⟩ := h; rfl
  · exact h.elim
  · rw [show V = .int (xAt X k) from h]; rfl
theorem rv_two {X : Nat × (Nat × (Nat → Int32))} {ρ : List Nat} {v : AV} {V : Value} (h : rv X ρ v V) (h1 : e_one v = false) : V.category = 2 := by
  rcases v with n | (_ | k) | n | n | n | (_ | _ | _ | k)
  · cases h1
  · cases h1
  · cases h1
  · rw [h.2]; rfl
  · rw [h.2]; rfl
  · cases h1
  · cases h1
  · cases h1
  · cases h1
  · cases h1
theorem vl_wt {X : Nat × (Nat × (Nat → Int32))} {ρ : List Nat} {a : List AV} {A : List Value} (h : vl X ρ a A) : (A.map fun v => v.category).sum = e_wt a := by
  induction a generalizing A with
  | nil => rw [vl_nil h]; rfl
  | cons v a ih =>
    obtain ⟨V, B, rfl, h3, h4⟩ := vl_cons h
    rw [List.map_cons, List.sum_cons, ih h4]
    show _ = Nat.add (Bool.rec 2 1 (e_one v)) (e_wt a)
    cases ho : e_one v with
    | true => rw [rv_one h3 ho]; rfl
    | false => rw [rv_two h3 ho]; rfl
/-! cells -/
def rc (X : Nat × (Nat × (Nat → Int32))) (ρ : List Nat) (cAi cAd : ClassId) (cl : AC) (E : va_E) : Prop := match cl with
  | .inl (ci, fs) => ∃ Fs, E = .inr (ci, Fs) ∧ vl X ρ fs Fs
  | .inr (.inl (n, ys)) => ∃ f : Nat → Int32, E = .inl (cAi, n, .inl f) ∧ n = ys.length ∧ n ≤ 1000 ∧ ∀ (j x : Nat), ys[j]? = some x → x < 4294967296 ∧ f j = nI x
  | .inr (.inr (n, ys)) => ∃ f : Nat → UInt64, E = .inl (cAd, n, .inr (.inr (.inr (.inl f)))) ∧ n = ys.length ∧ n ≤ 1000 ∧ ∀ (j x : Nat), ys[j]? = some x → x < 18446744073709551616 ∧ f j = UInt64.ofNat x
theorem rc_more {X : Nat × (Nat × (Nat → Int32))} {ρ t : List Nat} {cAi cAd : ClassId} {cl : AC} {E : va_E} (h : rc X ρ cAi cAd cl E) : rc X (ρ ++ t) cAi cAd cl E := by
  rcases cl with ⟨ci, fs⟩ | ⟨n, ys⟩ | ⟨n, ys⟩
  · obtain ⟨Fs, h1, h2⟩ := h
    exact ⟨Fs, h1, vl_more h2⟩
  · exact h
  · exact h
def HR (X : Nat × (Nat × (Nat → Int32))) (cAi cAd : ClassId) (h : AH) (z : Nat) (ρ : List Nat) (ws : va_W) : Prop := e_Wf h z ∧ ρ.length = z ∧ ws.map (fun q => q.1) = ρ ∧ ∀ (a : Nat) (cl : AC), e_cell h a = some cl → ∃ (ad : Nat) (E : va_E), ws[a]? = some (ad, E) ∧ rc X ρ cAi cAd cl E
theorem HR_adr {X : Nat × (Nat × (Nat → Int32))} {cAi cAd : ClassId} {h : AH} {z : Nat} {ρ : List Nat} {ws : va_W} (hr : HR X cAi cAd h z ρ ws) {a ad : Nat} {E : va_E} (hw : ws[a]? = some (ad, E)) : ρ[a]? = some ad := by
  obtain ⟨-, -, h3, -⟩ := hr
  rw [← h3, List.getElem?_map, hw]
  rfl
/-- a cell by the address that its place has -/
theorem HR_at {X : Nat × (Nat × (Nat → Int32))} {cAi cAd : ClassId} {h : AH} {z : Nat} {ρ : List Nat} {ws : va_W} (hr : HR X cAi cAd h z ρ ws) {a ad : Nat} {cl : AC} (hc : e_cell h a = some cl) (ha : ρ[a]? = some ad) : ∃ E : va_E, ws[a]? = some (ad, E) ∧ rc X ρ cAi cAd cl E := by
  obtain ⟨ad2, E, h1, h2⟩ := hr.2.2.2 a cl hc
  have h3 := HR_adr hr h1
  cases Option.some.inj (h3.symm.trans ha)
  exact ⟨E, h1, h2⟩
theorem HR_set {X : Nat × (Nat × (Nat → Int32))} {cAi cAd : ClassId} {h h' : AH} {z : Nat} {ρ : List Nat} {ws : va_W} (hr : HR X cAi cAd h z ρ ws) {a ad : Nat} {cl : AC} {E0 E : va_E} (hw : ws[a]? = some (ad, E0)) (h1 : e_Wf h' z) (h2 : e_cell h' a = some cl) (h3 : ∀ b, b ≠ a → e_cell h' b = e_cell h b) (h4 : rc X ρ cAi cAd cl E) : HR X cAi cAd h' z ρ (ws.set a (ad, E)) := by
  have hl := (List.getElem?_eq_some_iff.mp hw).1
  refine ⟨h1, hr.2.1, ?_, fun b cb hb => ?_⟩
  · rw [← hr.2.2.1]
    apply List.ext_getElem?
    intro i
    rw [List.getElem?_map, List.getElem?_map]
    by_cases hi : i = a
    · subst hi
      rw [List.getElem?_set_self hl, hw]
      rfl
    · rw [List.getElem?_set_ne (Ne.symm hi)]
  · by_cases hi : b = a
    · subst hi
      rw [h2] at hb
      cases hb
      exact ⟨ad, E, List.getElem?_set_self hl, h4⟩
    · rw [h3 b hi] at hb
      obtain ⟨ad2, E2, q1, q2⟩ := hr.2.2.2 b cb hb
      exact ⟨ad2, E2, by rw [List.getElem?_set_ne (Ne.symm hi)]; exact q1, q2⟩
theorem HR_push {X : Nat × (Nat × (Nat → Int32))} {cAi cAd : ClassId} {h h' : AH} {z : Nat} {ρ : List Nat} {ws : va_W} (hr : HR X cAi cAd h z ρ ws) {ad : Nat} {cl : AC} {E : va_E} (h1 : e_Wf h' (z + 1)) (h2 : e_cell h' z = some cl) (h3 : ∀ b, b ≠ z → e_cell h' b = e_cell h b) (h4 : rc X (ρ ++ [ad]) cAi cAd cl E) : HR X cAi cAd h' (z + 1) (ρ ++ [ad]) (ws ++ [(ad, E)]) := by
  obtain ⟨g1, g2, g3, g4⟩ := hr
  have hwl : ws.length = z := by rw [← g2, ← g3, List.length_map]
  refine ⟨h1, by rw [List.length_append, g2]; rfl, by rw [List.map_append, g3]; rfl, fun b cb hb => ?_⟩
  by_cases hi : b = z
  · subst hi
    rw [h2] at hb
    cases hb
    exact ⟨ad, E, by rw [List.getElem?_append_right (by omega), hwl, Nat.sub_self]; rfl, h4⟩
  · rw [h3 b hi] at hb
    obtain ⟨ad2, E2, q1, q2⟩ := g4 b cb hb
    exact ⟨ad2, E2, by rw [List.getElem?_append_left (List.getElem?_eq_some_iff.mp q1).1]; exact q1, rc_more q2⟩
/-! variables -/
def LR (X : Nat × (Nat × (Nat → Int32))) (ρ : List Nat) (nL : Nat) (lv : List AV) (ls : Array Slot) : Prop := lv.length = nL ∧ ∃ q : List (Nat × Value), lv_has ls nL q ∧ ∀ (j : Nat) (v : AV), lv[j]? = some v → v = .inr (.inr (.inr (.inr (.inr 2)))) ∨ ∃ V, (j, V) ∈ q ∧ rv X ρ v V
theorem LR_more {X : Nat × (Nat × (Nat → Int32))} {ρ t : List Nat} {nL : Nat} {lv : List AV} {ls : Array Slot} (h : LR X ρ nL lv ls) : LR X (ρ ++ t) nL lv ls := by
  obtain ⟨h1, q, h2, h3⟩ := h
  refine ⟨h1, q, h2, fun j v hj => ?_⟩
  rcases h3 j v hj with h | ⟨V, h4, h5⟩
  · exact Or.inl h
  · exact Or.inr ⟨V, h4, rv_more h5⟩
theorem LR_at {X : Nat × (Nat × (Nat → Int32))} {ρ : List Nat} {nL : Nat} {lv : List AV} {ls : Array Slot} (h : LR X ρ nL lv ls) {j : Nat} {v : AV} (hj : lv[j]? = some v) (hu : v ≠ .inr (.inr (.inr (.inr (.inr 2))))) : ∃ V, ls[j]? = some (.val V) ∧ rv X ρ v V := by
  obtain ⟨h1, q, h2, h3⟩ := h
  rcases h3 j v hj with h | ⟨V, h4, h5⟩
  · exact absurd h hu
  · exact ⟨V, h2.2.2 _ h4, h5⟩
/-- one slot is stored: what stood ahead of it was one slot wide -/
theorem LR_st1 {X : Nat × (Nat × (Nat → Int32))} {ρ : List Nat} {nL : Nat} {lv : List AV} {ls' : Array Slot} {i : Nat} {v : AV} {V : Value} {q : List (Nat × Value)} (h1 : lv.length = nL) (h3 : ∀ (j : Nat) (v : AV), lv[j]? = some v → v = .inr (.inr (.inr (.inr (.inr 2)))) ∨ ∃ V, (j, V) ∈ q ∧ rv X ρ v V)
    (hv : rv X ρ v V) (hp : ∀ (j : Nat) (u : AV) (U : Value), j + 1 = i → lv[j]? = some u → rv X ρ u U → U.category ≠ 2) (hl : lv_has ls' nL ((i, V) :: q.filter (fun q => !(q.1 == i) && !(q.1 + 1 == i && q.2.category == 2)))) : LR X ρ nL (lv.set i v) ls' := by
  refine ⟨by rw [List.length_set]; exact h1, _, hl, fun j u hj => ?_⟩
  rw [List.getElem?_set] at hj
  split at hj
  · rename_i e
    subst e
    split at hj
    · cases hj
      exact Or.inr ⟨V, List.mem_cons_self, hv⟩
    · cases hj
  · rename_i e
    rcases h3 j u hj with h | ⟨U, h4, h5⟩
    · exact Or.inl h
    · refine Or.inr ⟨U, List.mem_cons_of_mem _ (List.mem_filter.mpr ⟨h4, ?_⟩), h5⟩
      have e2 : (j == i) = false := by simp [Ne.symm e]
      have e3 : (j + 1 == i && U.category == 2) = false := by
        by_cases hji : j + 1 = i
        · have := hp j u U hji hj h5
          simp [this]
        · simp [hji]
      simp [e2, e3]
theorem LR_st2 {X : Nat × (Nat × (Nat → Int32))} {ρ : List Nat} {nL : Nat} {lv : List AV} {ls' : Array Slot} {i : Nat} {v : AV} {V : Value} {q : List (Nat × Value)} (h1 : lv.length = nL) (h3 : ∀ (j : Nat) (v : AV), lv[j]? = some v → v = .inr (.inr (.inr (.inr (.inr 2)))) ∨ ∃ V, (j, V) ∈ q ∧ rv X ρ v V)
    (hv : rv X ρ v V) (hp : ∀ (j : Nat) (u : AV) (U : Value), j + 1 = i → lv[j]? = some u → rv X ρ u U → U.category ≠ 2) (hl : lv_has ls' nL ((i, V) :: q.filter (fun q => !(q.1 == i) && (!(q.1 == i + 1) && !(q.1 + 1 == i && q.2.category == 2))))) : LR X ρ nL ((lv.set i v).set (i + 1) (.inr (.inr (.inr (.inr (.inr 2)))))) ls' := by
  refine ⟨by rw [List.length_set, List.length_set]; exact h1, _, hl, fun j u hj => ?_⟩
  rw [List.getElem?_set] at hj
  split at hj
  · split at hj
    · cases hj
      exact Or.inl rfl
    · cases hj
  · rename_i e0
    rw [List.getElem?_set] at hj
    split at hj
    · rename_i e
      subst e
      split at hj
      · cases hj
        exact Or.inr ⟨V, List.mem_cons_self, hv⟩
      · cases hj
    · rename_i e
      rcases h3 j u hj with h | ⟨U, h4, h5⟩
      · exact Or.inl h
      · refine Or.inr ⟨U, List.mem_cons_of_mem _ (List.mem_filter.mpr ⟨h4, ?_⟩), h5⟩
        have e2 : (j == i) = false := by simp [Ne.symm e]
        have e4 : (j == i + 1) = false := by simp [Ne.symm e0]
        have e3 : (j + 1 == i && U.category == 2) = false := by
          by_cases hji : j + 1 = i
          · have := hp j u U hji hj h5
            simp [this]
          · simp [hji]
        simp [e2, e3, e4]
/-! the walk's facts that stay -/
/-- what a state must have of the world: the classes, the words that are moved by name, the statics, the script -/
def Cy (Y : Yt) (U : State) : Prop := va_K Y.2.1 ev_cl [(Y.2.2.1, .int), (Y.2.2.2.1, .double)] U ∧ (∀ w ∈ ev_N, va_Nw w U) ∧ (∀ q ∈ ev_nc, va_Nc q.1 q.2 U) ∧ vx_Zq Bundle.tN "UNASSIGNED_STACK" Bundle.steD Y.2.2.2.2.1 U U.heap ∧ vx_Zq Bundle.tN "SUPPRESSED_SENTINEL" Bundle.listD Y.2.2.2.2.1 U U.heap ∧ va_X Y.1.1 Y.1.2.1 Y.1.2.2 U U.heap ∧ Y.1.1 < U.heap.size ∧ ¬ Y.2.2.2.2.1 Y.1.1 ∧ (∀ q, U.heap.size ≤ q → Y.2.2.2.2.1 q)
abbrev Cx (G : Gm) (U : State) : Prop := Cy G.2.2 U
def Wk (G : Gm) (cc : ByteArray) (nL : Nat) (own : String) : Prop := (gp G).tables.exec = Jvm.exec ∧ (gc G).code = cc ∧ (gc G).maxLocals = nL ∧ (gs G).vm.findClass own = some (gm G).cls ∧ (∀ w ∈ ev_G, w.before (ga G) (gs G) = true) ∧ (gk G).locks = false ∧ Cx G (gs G) ∧ (∀ q, gA G q → gA0 G q) ∧ (∀ q, (gs G).heap.size ≤ q → gA G q) ∧ (gl G).stackTraces = false ∧ 10 ≤ (gR G).frames ∧ 200 ≤ (gR G).locals
/-- the evaluator's state, and the machine's -/
def St (G : Gm) (nL : Nat) (lv st : List AV) (h : AH) (z : Nat) (ρ : List Nat) (ws : va_W) (ls : Array Slot) (Vs : List Value) (H : Heap) (locs : List Loc) : Prop := LR (gX G) ρ nL lv ls ∧ vl (gX G) ρ st Vs ∧ HR (gX G) (gAi G) (gAd G) h z ρ ws ∧ (∃ t, ρ = gr G ++ t) ∧ va_P (gD G) ev_cl ws H ∧ va_D (gA G) ws ∧ va_S (gA G) (gs G).heap H locs
/-- K, from pc on, says what the machine does -/
def Snd (G : Gm) (nL : Nat) (Q : Rs → State → Prop) (K : Kt) (pc : Nat) : Prop := ∀ (lv st : List AV) (h : AH) (z cn sn : Nat) (r : Rs), K lv st h z cn sn = some r → (cn ≤ r.2.2.2.1 ∧ sn ≤ r.2.2.2.2) ∧ (r.2.2.2.1 ≤ (gR G).cells → r.2.2.2.2 ≤ (gR G).slots → ∀ (ρ : List Nat) (ws : va_W) (ls : Array Slot) (Vs : List Value) (H : Heap) (locs : List Loc), St G nL lv st h z ρ ws ls Vs H locs → gW G H locs cn sn (Q r) (F0 (gm G) pc ls Vs))
theorem Snd_no {G : Gm} {nL : Nat} {Q : Rs → State → Prop} {K : Kt} {pc : Nat} (h : ∀ lv st h z cn sn, K lv st h z cn sn = none) : Snd G nL Q K pc := fun lv st hh z cn sn r hr => no_none ((h lv st hh z cn sn).symm.trans hr)
theorem Wk.lk {G : Gm} {cc : ByteArray} {nL : Nat} {own : String} (w : Wk G cc nL own) : (gk G).locks = false := w.2.2.2.2.2.1
theorem Wk.cx {G : Gm} {cc : ByteArray} {nL : Nat} {own : String} (w : Wk G cc nL own) : Cx G (gs G) := w.2.2.2.2.2.2.1
theorem Wk.K {G : Gm} {cc : ByteArray} {nL : Nat} {own : String} (w : Wk G cc nL own) : va_K (gD G) ev_cl [(gAi G, .int), (gAd G, .double)] (gs G) := w.cx.1
theorem Wk.sub {G : Gm} {cc : ByteArray} {nL : Nat} {own : String} (w : Wk G cc nL own) : ∀ q, gA G q → gA0 G q := w.2.2.2.2.2.2.2.1
theorem Wk.fresh {G : Gm} {cc : ByteArray} {nL : Nat} {own : String} (w : Wk G cc nL own) : ∀ q, (gs G).heap.size ≤ q → gA G q := w.2.2.2.2.2.2.2.2.1
theorem Wk.tr {G : Gm} {cc : ByteArray} {nL : Nat} {own : String} (w : Wk G cc nL own) : (gl G).stackTraces = false := w.2.2.2.2.2.2.2.2.2.1
theorem Wk.fr {G : Gm} {cc : ByteArray} {nL : Nat} {own : String} (w : Wk G cc nL own) : 10 ≤ (gR G).frames := w.2.2.2.2.2.2.2.2.2.2.1
theorem Wk.lo {G : Gm} {cc : ByteArray} {nL : Nat} {own : String} (w : Wk G cc nL own) : 200 ≤ (gR G).locals := w.2.2.2.2.2.2.2.2.2.2.2
theorem Wk.use {G : Gm} {cc : ByteArray} {nL : Nat} {own : String} (w : Wk G cc nL own) {v : Cond} (h : v ∈ ev_G) : v.before (ga G) (gs G) = true := w.2.2.2.2.1 v h
theorem ev_in {w : Cond} (h : w ∈ lw_tbl) (g : goodWord w = true) : w ∈ ev_G := List.mem_filter.mpr ⟨h, g⟩
theorem ev_inT {w : Cond} (i : Nat) (h : tables_1[i]? = some w) (g : goodWord w = true) : w ∈ ev_G := ev_in (List.mem_append_right _ (List.mem_of_getElem? h)) g
theorem ev_inN {w : Cond} (i : Nat) (h : tables_1[i]? = some w) (g : ev_nk w = true) : w ∈ ev_N := List.mem_filter.mpr ⟨List.mem_append_right _ (List.mem_of_getElem? h), g⟩
theorem ev_on {w : Cond} (g : ev_nk w = true) : w.onTables = true := by
  cases w <;> first | rfl | (cases g)
/-- any word that the tables keep, or that is moved by name -/
theorem Wk.any {G : Gm} {cc : ByteArray} {nL : Nat} {own : String} (w : Wk G cc nL own) {v : Cond} (h : v ∈ lw_tbl) (g : (goodWord v || ev_nk v) = true) : v.before (ga G) (gs G) = true := by
  cases hg : goodWord v with
  | true => exact w.use (ev_in h hg)
  | false =>
    rw [hg] at g
    have g : ev_nk v = true := g
    exact va_Nw.use (ev_on g) (w.cx.2.1 v (List.mem_filter.mpr ⟨h, g⟩))
end
section
/-! numbers -/
theorem q_mod (n : Nat) : nI (n % 4294967296) = nI n := by
  apply Int32.toBitVec_inj.mp
  apply BitVec.eq_of_toNat_eq
  show n % 4294967296 % 2 ^ 32 = n % 2 ^ 32
  omega
theorem q_toInt {n : Nat} (h : n < 4294967296) : (nI n).toInt = if n < 2147483648 then (n : Int) else (n : Int) - 4294967296 := by
  show (Int32.ofNat n).toInt = _
  rw [Int32.toInt_ofNat']
  show Int.bmod (n : Int) 4294967296 = _
  rw [Int.bmod_def]
  split <;> split <;> omega
theorem q_eq {a b : Nat} (ha : a < 4294967296) (hb : b < 4294967296) : nI a = nI b ↔ a = b := by
  rw [← Int32.toInt_inj, q_toInt ha, q_toInt hb]
  constructor
  · intro h
    split at h <;> split at h <;> omega
  · intro h
    rw [h]
theorem q_le {a b : Nat} (ha : a < 4294967296) (hb : b < 4294967296) : nI a ≤ nI b ↔ (a + 2147483648) % 4294967296 ≤ (b + 2147483648) % 4294967296 := by
  rw [Int32.le_iff_toInt_le, q_toInt ha, q_toInt hb]
  split <;> split <;> omega
theorem q_lt {a b : Nat} (ha : a < 4294967296) (hb : b < 4294967296) : nI a < nI b ↔ ¬ (b + 2147483648) % 4294967296 ≤ (a + 2147483648) % 4294967296 := by
  rw [Int32.lt_iff_toInt_lt, q_toInt ha, q_toInt hb]
  split <;> split <;> omega
theorem q_lt0 {a : Nat} (ha : a < 4294967296) : nI a < 0 ↔ ¬ a ≤ 2147483647 := by
  rw [Int32.lt_iff_toInt_lt, q_toInt ha, show (0 : Int32).toInt = 0 from by decide]
  split <;> omega
theorem q_eq0 {a : Nat} (ha : a < 4294967296) : nI a = 0 ↔ a = 0 := q_eq ha (b := 0) (by decide)
theorem q_le0 {a : Nat} (ha : a < 4294967296) : nI a ≤ 0 ↔ (a = 0 ∨ ¬ a ≤ 2147483647) := by
  rw [Int32.le_iff_toInt_le, q_toInt ha, show (0 : Int32).toInt = 0 from by decide]
  split <;> omega
theorem q_add (a b : Nat) : nI a + nI b = nI (f_add a b) := by
  show _ = nI ((a + b) % 4294967296)
  rw [q_mod, nI_add]
theorem q_sub {a b : Nat} (hb : b < 4294967296) : nI a - nI b = nI (f_sub a b) := by
  show _ = nI ((a + (4294967296 - b)) % 4294967296)
  rw [q_mod]
  have h1 : nI (a + (4294967296 - b)) + nI b = nI a := by
    rw [nI_add, ← q_mod, show (a + (4294967296 - b) + b) = a + 4294967296 by omega, show (a + 4294967296) % 4294967296 = a % 4294967296 by omega, q_mod]
  rw [← h1, Int32.add_sub_cancel]
theorem q_mul (a b : Nat) : nI a * nI b = nI (f_mul a b) := by
  show _ = nI ((a * b) % 4294967296)
  rw [q_mod, pk_mul]
theorem q_and (a b : Nat) : nI a &&& nI b = nI (f_and a b) := by
  show _ = nI (a &&& b)
  apply Int32.toBitVec_inj.1
  show BitVec.ofNat 32 a &&& BitVec.ofNat 32 b = BitVec.ofNat 32 (a &&& b)
  apply BitVec.eq_of_getLsbD_eq
  intro i hi
  simp [hi]
theorem q_or (a b : Nat) : nI a ||| nI b = nI (f_or a b) := by
  show _ = nI (a ||| b)
  apply Int32.toBitVec_inj.1
  show BitVec.ofNat 32 a ||| BitVec.ofNat 32 b = BitVec.ofNat 32 (a ||| b)
  apply BitVec.eq_of_getLsbD_eq
  intro i hi
  simp [hi]
theorem q_neg {a : Nat} (ha : a < 4294967296) : - nI a = nI (f_neg a) := by
  show _ = nI ((4294967296 - a) % 4294967296)
  rw [q_mod]
  have h1 : nI (4294967296 - a) + nI a = 0 := by
    rw [nI_add, ← q_mod, show (4294967296 - a + a) = 4294967296 by omega]
    rfl
  have h2 : - nI a + nI a = 0 := Int32.add_left_neg _
  rw [← Int32.add_sub_cancel (- nI a) (nI a), h2, ← h1, Int32.add_sub_cancel]
theorem q_char {a : Nat} (ha : a < 4294967296) : ((nI a).toUInt32 % 65536).toInt32 = nI (f_char a) := by
  show _ = nI (a % 65536)
  rw [pk_char, pk_tn (n := a) (by omega)]
theorem q_shr : ∀ b, b < 32 → ((nI b &&& 31).toBitVec.smod 32).toNat = b := by decide +kernel
theorem q_cl {n : Nat} (h : n < 2147483648) : (nI n).toNatClampNeg = n := nI_clamp (by omega)
/-! the simple instructions -/
section OPS
variable {G : Gm} {nL : Nat} {Q : Rs → State → Prop} {nx : Kt} {jp : Nat → Kt} {cal : Cal} {cc : ByteArray} {own : String} {pc : Nat}
theorem s_no : Snd G nL Q (o_no nx jp cal) pc := Snd_no (fun _ _ _ _ _ _ => rfl)
theorem s_push {v : AV} {V : Value} {pc2 : Nat} (row : ∀ (H : Heap) (locs : List Loc) (cn sn : Nat) (Q : State → Prop) (ls : Array Slot) (Vs : List Value), gW G H locs cn sn Q (F0 (gm G) pc2 ls (V :: Vs)) → gW G H locs cn sn Q (F0 (gm G) pc ls Vs)) (hv : ∀ ρ, rv (gX G) ρ v V) (k : Snd G nL Q nx pc2) : Snd G nL Q (o_v v nx jp cal) pc := by
  intro lv st h z cn sn r hr
  obtain ⟨hm, hk⟩ := k lv (v :: st) h z cn sn r hr
  refine ⟨hm, fun hc hs ρ ws ls Vs H locs S => ?_⟩
  exact row _ _ _ _ _ _ _ (hk hc hs ρ ws ls (V :: Vs) H locs ⟨S.1, ⟨hv ρ, S.2.1⟩, S.2.2⟩)
theorem s_ic {n : Int} {v : Nat} (w : Wk G cc nL own) (hd : decode cc pc = .ok (.iconst n, 1)) (hv : v < 4294967296) (e : Int32.ofInt n = nI v) (k : Snd G nL Q nx (pc + 1)) : Snd G nL Q (o_ic v nx jp cal) pc :=
  s_push (jp := jp) (cal := cal) (v := .inl v) (V := .int (nI v)) (fun _ _ _ _ _ _ _ => lv_iconst w.1 w.2.1 hd e) (fun _ => ⟨hv, rfl⟩) k
theorem s_bi {n : Int} {v : Nat} (w : Wk G cc nL own) (hd : decode cc pc = .ok (.bipush n, 2)) (hv : v < 4294967296) (e : (Int8.ofInt n).toInt32 = nI v) (k : Snd G nL Q nx (pc + 2)) : Snd G nL Q (o_ic v nx jp cal) pc :=
  s_push (jp := jp) (cal := cal) (v := .inl v) (V := .int (nI v)) (fun _ _ _ _ _ _ _ => lv_bipush w.1 w.2.1 hd e) (fun _ => ⟨hv, rfl⟩) k
theorem s_si {n : Int} {v : Nat} (w : Wk G cc nL own) (hd : decode cc pc = .ok (.sipush n, 3)) (hv : v < 4294967296) (e : (Int16.ofInt n).toInt32 = nI v) (k : Snd G nL Q nx (pc + 3)) : Snd G nL Q (o_ic v nx jp cal) pc :=
  s_push (jp := jp) (cal := cal) (v := .inl v) (V := .int (nI v)) (fun _ _ _ _ _ _ _ => lv_sipush w.1 w.2.1 hd e) (fun _ => ⟨hv, rfl⟩) k
theorem s_ldc {ix v : Nat} {v' : Int32} (w : Wk G cc nL own) (hd : decode cc pc = .ok (.ldc ix, 2)) (hv : v < 4294967296) (e : v' = nI v) (hw : Cond.constant own ix v' ∈ ev_G) (k : Snd G nL Q nx (pc + 2)) : Snd G nL Q (o_ic v nx jp cal) pc := by
  subst e
  exact s_push (jp := jp) (cal := cal) (v := .inl v) (V := .int (nI v)) (fun _ _ _ _ _ _ _ => lv_ldc w.1 w.2.1 w.2.2.2.1 (w.2.2.2.2.1 _ hw) hd) (fun _ => ⟨hv, rfl⟩) k
theorem s_ldcL {ix v : Nat} {v' : Int64} (w : Wk G cc nL own) (hd : decode cc pc = .ok (.ldc2_w ix, 3)) (hv : v < 18446744073709551616) (e : v' = lN v) (hw : Cond.constantLong own ix v' ∈ ev_G) (k : Snd G nL Q nx (pc + 3)) : Snd G nL Q (o_v (.inr (.inr (.inl v))) nx jp cal) pc := by
  subst e
  exact s_push (jp := jp) (cal := cal) (V := .long (lN v)) (fun _ _ _ _ _ _ _ => lv_ldc2 w.1 w.2.1 w.2.2.2.1 (w.2.2.2.2.1 _ hw) hd) (fun _ => ⟨hv, rfl⟩) k
theorem s_ldcD {ix v : Nat} {v' : UInt64} (w : Wk G cc nL own) (hd : decode cc pc = .ok (.ldc2_w ix, 3)) (hv : v < 18446744073709551616) (e : v' = UInt64.ofNat v) (hw : Cond.constantDouble own ix v' ∈ ev_G) (k : Snd G nL Q nx (pc + 3)) : Snd G nL Q (o_v (.inr (.inr (.inr (.inl v)))) nx jp cal) pc := by
  subst e
  exact s_push (jp := jp) (cal := cal) (V := .double (UInt64.ofNat v)) (fun _ _ _ _ _ _ _ => lv_ldc2d w.1 w.2.1 w.2.2.2.1 (w.2.2.2.2.1 _ hw) hd) (fun _ => ⟨hv, rfl⟩) k
theorem s_dc0 (w : Wk G cc nL own) (hd : decode cc pc = .ok (.dconst 0, 1)) (k : Snd G nL Q nx (pc + 1)) : Snd G nL Q (o_v (.inr (.inr (.inr (.inl 0)))) nx jp cal) pc :=
  s_push (jp := jp) (cal := cal) (V := .double (UInt64.ofNat 0)) (fun _ _ _ _ _ _ _ => lv_dconst0 w.1 w.2.1 hd) (fun _ => ⟨by decide, rfl⟩) k
theorem s_fc1 (w : Wk G cc nL own) (hd : decode cc pc = .ok (.fconst 1, 1)) (k : Snd G nL Q nx (pc + 1)) : Snd G nL Q (o_v (.inr (.inr (.inr (.inr (.inl 1065353216))))) nx jp cal) pc :=
  s_push (jp := jp) (cal := cal) (V := .float (UInt32.ofNat 1065353216)) (fun _ _ _ _ _ _ _ => lv_fconst1 w.1 w.2.1 hd) (fun _ => ⟨by decide, rfl⟩) k
/-- a variable onto the stack -/
theorem s_ild {i len : Nat} (row : ∀ (H : Heap) (locs : List Loc) (cn sn : Nat) (Q : State → Prop) (ls : Array Slot) (Vs : List Value) (x : Int32), ls[i]? = some (.val (.int x)) → gW G H locs cn sn Q (F0 (gm G) (pc + len) ls (.int x :: Vs)) → gW G H locs cn sn Q (F0 (gm G) pc ls Vs)) (k : Snd G nL Q nx (pc + len)) : Snd G nL Q (o_ild i nx jp cal) pc := by
  intro lv st h z cn sn r hr
  obtain ⟨v, h1, h2⟩ := e_nth_inv (show e_nth lv i (fun v => e_vI v fun x => nx lv (.inl x :: st) h z cn sn) = some r from hr)
  obtain ⟨x, rfl, h3⟩ := e_vI_inv h2
  obtain ⟨hm, hk⟩ := k _ _ _ _ _ _ _ h3
  refine ⟨hm, fun hc hs ρ ws ls Vs H locs S => ?_⟩
  obtain ⟨V, h4, hx, rfl⟩ := LR_at S.1 h1 (fun q => by cases q)
  exact row _ _ _ _ _ _ _ _ h4 (hk hc hs ρ ws ls _ H locs ⟨S.1, ⟨⟨hx, rfl⟩, S.2.1⟩, S.2.2⟩)
theorem s_ild_n {i : Nat} {f : Fin 4} (w : Wk G cc nL own) (hd : decode cc pc = .ok (.iload_n f, 1)) (hf : (f : Nat) = i) (k : Snd G nL Q nx (pc + 1)) : Snd G nL Q (o_ild i nx jp cal) pc := s_ild (fun _ _ _ _ _ _ _ _ h => lv_iload_n w.1 w.2.1 hd hf h) k
theorem s_ild_w {i : Nat} (w : Wk G cc nL own) (hd : decode cc pc = .ok (.iload i, 2)) (k : Snd G nL Q nx (pc + 2)) : Snd G nL Q (o_ild i nx jp cal) pc := s_ild (fun _ _ _ _ _ _ _ _ h => lv_iload w.1 w.2.1 hd h) k
theorem s_ald {i len : Nat} (row : ∀ (H : Heap) (locs : List Loc) (cn sn : Nat) (Q : State → Prop) (ls : Array Slot) (Vs : List Value) (x : Nat), ls[i]? = some (.val (.ref x)) → gW G H locs cn sn Q (F0 (gm G) (pc + len) ls (.ref x :: Vs)) → gW G H locs cn sn Q (F0 (gm G) pc ls Vs)) (k : Snd G nL Q nx (pc + len)) : Snd G nL Q (o_ald i nx jp cal) pc := by
  intro lv st h z cn sn r hr
  obtain ⟨v, h1, h2⟩ := e_nth_inv (show e_nth lv i (fun v => e_vR v fun _ => nx lv (v :: st) h z cn sn) = some r from hr)
  obtain ⟨x, rfl, h3⟩ := e_vR_inv h2
  obtain ⟨hm, hk⟩ := k _ _ _ _ _ _ _ h3
  refine ⟨hm, fun hc hs ρ ws ls Vs H locs S => ?_⟩
  obtain ⟨V, h4, a, hx, rfl⟩ := LR_at S.1 h1 (fun q => by cases q)
  exact row _ _ _ _ _ _ _ _ h4 (hk hc hs ρ ws ls _ H locs ⟨S.1, ⟨⟨a, hx, rfl⟩, S.2.1⟩, S.2.2⟩)
theorem s_ald_n {i : Nat} {f : Fin 4} (w : Wk G cc nL own) (hd : decode cc pc = .ok (.aload_n f, 1)) (hf : (f : Nat) = i) (k : Snd G nL Q nx (pc + 1)) : Snd G nL Q (o_ald i nx jp cal) pc := s_ald (fun _ _ _ _ _ _ _ _ h => lv_aload_n w.1 w.2.1 hd hf h) k
theorem s_ald_w {i : Nat} (w : Wk G cc nL own) (hd : decode cc pc = .ok (.aload i, 2)) (k : Snd G nL Q nx (pc + 2)) : Snd G nL Q (o_ald i nx jp cal) pc := s_ald (fun _ _ _ _ _ _ _ _ h => lv_aload w.1 w.2.1 hd h) k
theorem s_sld_n {i : Nat} {f : Fin 4} (w : Wk G cc nL own) (hd : decode cc pc = .ok (.aload_n f, 1)) (hf : (f : Nat) = i) (k : Snd G nL Q nx (pc + 1)) : Snd G nL Q (o_sld i nx jp cal) pc := by
  intro lv st h z cn sn r hr
  obtain ⟨v, h1, h2⟩ := e_nth_inv (show e_nth lv i (fun v => e_vS v fun x => e_if (Nat.beq x 0) (nx lv (v :: st) h z cn sn) none) = some r from hr)
  obtain ⟨x, rfl, h3⟩ := e_vS_inv h2
  obtain ⟨h4, h5⟩ := e_if_t h3
  have h4 := Nat.eq_of_beq_eq_true h4
  subst h4
  obtain ⟨hm, hk⟩ := k _ _ _ _ _ _ _ h5
  refine ⟨hm, fun hc hs ρ ws ls Vs H locs S => ?_⟩
  obtain ⟨V, h6, h7⟩ := LR_at S.1 h1 (fun q => by cases q)
  have h7 : V = .ref (gX G).1 := h7
  subst h7
  exact lv_aload_n w.1 w.2.1 hd hf h6 (hk hc hs ρ ws ls _ H locs ⟨S.1, ⟨rfl, S.2.1⟩, S.2.2⟩)
theorem s_dld {i len : Nat} (row : ∀ (H : Heap) (locs : List Loc) (cn sn : Nat) (Q : State → Prop) (ls : Array Slot) (Vs : List Value) (x : UInt64), ls[i]? = some (.val (.double x)) → gW G H locs cn sn Q (F0 (gm G) (pc + len) ls (.double x :: Vs)) → gW G H locs cn sn Q (F0 (gm G) pc ls Vs)) (k : Snd G nL Q nx (pc + len)) : Snd G nL Q (o_dld i nx jp cal) pc := by
  intro lv st h z cn sn r hr
  obtain ⟨v, h1, h2⟩ := e_nth_inv (show e_nth lv i (fun v => e_vD v fun _ => nx lv (v :: st) h z cn sn) = some r from hr)
  obtain ⟨x, rfl, h3⟩ := e_vD_inv h2
  obtain ⟨hm, hk⟩ := k _ _ _ _ _ _ _ h3
  refine ⟨hm, fun hc hs ρ ws ls Vs H locs S => ?_⟩
  obtain ⟨V, h4, hx, rfl⟩ := LR_at S.1 h1 (fun q => by cases q)
  exact row _ _ _ _ _ _ _ _ h4 (hk hc hs ρ ws ls _ H locs ⟨S.1, ⟨⟨hx, rfl⟩, S.2.1⟩, S.2.2⟩)
theorem s_dld_n {i : Nat} {f : Fin 4} (w : Wk G cc nL own) (hd : decode cc pc = .ok (.dload_n f, 1)) (hf : (f : Nat) = i) (k : Snd G nL Q nx (pc + 1)) : Snd G nL Q (o_dld i nx jp cal) pc := s_dld (fun _ _ _ _ _ _ _ _ h => lv_dload_n w.1 w.2.1 hd hf h) k
theorem s_dld_w {i : Nat} (w : Wk G cc nL own) (hd : decode cc pc = .ok (.dload i, 2)) (k : Snd G nL Q nx (pc + 2)) : Snd G nL Q (o_dld i nx jp cal) pc := s_dld (fun _ _ _ _ _ _ _ _ h => lv_dload w.1 w.2.1 hd h) k
theorem s_lld_n {i : Nat} {f : Fin 4} (w : Wk G cc nL own) (hd : decode cc pc = .ok (.lload_n f, 1)) (hf : (f : Nat) = i) (k : Snd G nL Q nx (pc + 1)) : Snd G nL Q (o_lld i nx jp cal) pc := by
  intro lv st h z cn sn r hr
  obtain ⟨v, h1, h2⟩ := e_nth_inv (show e_nth lv i (fun v => e_vL v fun _ => nx lv (v :: st) h z cn sn) = some r from hr)
  obtain ⟨x, rfl, h3⟩ := e_vL_inv h2
  obtain ⟨hm, hk⟩ := k _ _ _ _ _ _ _ h3
  refine ⟨hm, fun hc hs ρ ws ls Vs H locs S => ?_⟩
  obtain ⟨V, h4, hx, rfl⟩ := LR_at S.1 h1 (fun q => by cases q)
  exact lv_lload_n w.1 w.2.1 hd hf h4 (hk hc hs ρ ws ls _ H locs ⟨S.1, ⟨⟨hx, rfl⟩, S.2.1⟩, S.2.2⟩)
/-- what stands ahead of a place is one slot wide -/
theorem q_ahead {X : Nat × (Nat × (Nat → Int32))} {ρ : List Nat} {lv : List AV} {j0 i : Nat} {v : AV} (h1 : lv[j0]? = some v) (ho : e_one v = true) (e : j0 + 1 = i) : ∀ (j : Nat) (u : AV) (U : Value), j + 1 = i → lv[j]? = some u → rv X ρ u U → U.category ≠ 2 := by
  intro j u U hj hu hU
  have : j = j0 := by omega
  subst this
  rw [h1] at hu
  cases hu
  rw [rv_one hU ho]
  decide
theorem s_ist {j i len : Nat} (e : j + 1 = i) (row : ∀ (H : Heap) (locs : List Loc) (cn sn : Nat) (Q : State → Prop) (ls : Array Slot) (Vs : List Value) (x : Int32) (q : List (Nat × Value)), lv_has ls nL q → i < nL → (∀ ls' : Array Slot, lv_has ls' nL ((i, Value.int x) :: q.filter (fun q => !(q.1 == i) && !(q.1 + 1 == i && q.2.category == 2))) → gW G H locs cn sn Q (F0 (gm G) (pc + len) ls' Vs)) → gW G H locs cn sn Q (F0 (gm G) pc ls (.int x :: Vs))) (k : Snd G nL Q nx (pc + len)) : Snd G nL Q (o_ist j nx jp cal) pc := by
  subst e
  intro lv st h z cn sn r hr
  obtain ⟨x, t, rfl, h1⟩ := e_pI_inv (show e_pI st (fun x s => e_nth lv j fun v => e_if (e_one v) (e_upd lv (Nat.succ j) (.inl x) fun l => nx l s h z cn sn) none) = some r from hr)
  obtain ⟨v, h2, h3⟩ := e_nth_inv h1
  obtain ⟨h4, h5⟩ := e_if_t h3
  obtain ⟨h6, h7⟩ := e_upd_inv h5
  obtain ⟨hm, hk⟩ := k _ _ _ _ _ _ _ h7
  refine ⟨hm, fun hc hs ρ ws ls Vs H locs S => ?_⟩
  obtain ⟨T, rfl, hx, hT⟩ := vl_int S.2.1
  obtain ⟨hlen, q, hq, hv⟩ := S.1
  refine row _ _ _ _ _ _ _ _ q hq (by rw [← hlen]; exact h6) (fun ls' hl => hk hc hs ρ ws ls' T H locs ⟨?_, hT, S.2.2⟩)
  exact LR_st1 hlen hv ⟨hx, rfl⟩ (q_ahead h2 h4 rfl) hl
theorem s_ist_n {j i : Nat} {f : Fin 4} (w : Wk G cc nL own) (hd : decode cc pc = .ok (.istore_n f, 1)) (hf : (f : Nat) = i) (e : j + 1 = i) (k : Snd G nL Q nx (pc + 1)) : Snd G nL Q (o_ist j nx jp cal) pc := s_ist e (fun _ _ _ _ _ _ _ _ _ h hn kk => lv_istore_n w.1 w.2.1 hd hf h hn rfl kk) k
theorem s_ist_w {j i : Nat} (w : Wk G cc nL own) (hd : decode cc pc = .ok (.istore i, 2)) (e : j + 1 = i) (k : Snd G nL Q nx (pc + 2)) : Snd G nL Q (o_ist j nx jp cal) pc := s_ist e (fun _ _ _ _ _ _ _ _ _ h hn kk => lv_istore w.1 w.2.1 hd h hn rfl kk) k
theorem s_ast {j i len : Nat} (e : j + 1 = i) (row : ∀ (H : Heap) (locs : List Loc) (cn sn : Nat) (Q : State → Prop) (ls : Array Slot) (Vs : List Value) (x : Nat) (q : List (Nat × Value)), lv_has ls nL q → i < nL → (∀ ls' : Array Slot, lv_has ls' nL ((i, Value.ref x) :: q.filter (fun q => !(q.1 == i) && !(q.1 + 1 == i && q.2.category == 2))) → gW G H locs cn sn Q (F0 (gm G) (pc + len) ls' Vs)) → gW G H locs cn sn Q (F0 (gm G) pc ls (.ref x :: Vs))) (k : Snd G nL Q nx (pc + len)) : Snd G nL Q (o_ast j nx jp cal) pc := by
  subst e
  intro lv st h z cn sn r hr
  obtain ⟨x, t, rfl, h1⟩ := e_pR_inv (show e_pR st (fun x s => e_nth lv j fun v => e_if (e_one v) (e_upd lv (Nat.succ j) (.inr (.inl (Nat.succ x))) fun l => nx l s h z cn sn) none) = some r from hr)
  obtain ⟨v, h2, h3⟩ := e_nth_inv h1
  obtain ⟨h4, h5⟩ := e_if_t h3
  obtain ⟨h6, h7⟩ := e_upd_inv h5
  obtain ⟨hm, hk⟩ := k _ _ _ _ _ _ _ h7
  refine ⟨hm, fun hc hs ρ ws ls Vs H locs S => ?_⟩
  obtain ⟨a, T, rfl, ha, hT⟩ := vl_ref S.2.1
  obtain ⟨hlen, q, hq, hv⟩ := S.1
  refine row _ _ _ _ _ _ _ _ q hq (by rw [← hlen]; exact h6) (fun ls' hl => hk hc hs ρ ws ls' T H locs ⟨?_, hT, S.2.2⟩)
  exact LR_st1 hlen hv ⟨a, ha, rfl⟩ (q_ahead h2 h4 rfl) hl
theorem s_ast_n {j i : Nat} {f : Fin 4} (w : Wk G cc nL own) (hd : decode cc pc = .ok (.astore_n f, 1)) (hf : (f : Nat) = i) (e : j + 1 = i) (k : Snd G nL Q nx (pc + 1)) : Snd G nL Q (o_ast j nx jp cal) pc := s_ast e (fun _ _ _ _ _ _ _ _ _ h hn kk => lv_astore_n w.1 w.2.1 hd hf h hn rfl kk) k
theorem s_ast_w {j i : Nat} (w : Wk G cc nL own) (hd : decode cc pc = .ok (.astore i, 2)) (e : j + 1 = i) (k : Snd G nL Q nx (pc + 2)) : Snd G nL Q (o_ast j nx jp cal) pc := s_ast e (fun _ _ _ _ _ _ _ _ _ h hn kk => lv_astore w.1 w.2.1 hd h hn rfl kk) k
theorem s_xst_n {j i : Nat} {f : Fin 4} (w : Wk G cc nL own) (hd : decode cc pc = .ok (.astore_n f, 1)) (hf : (f : Nat) = i) (e : j + 1 = i) (k : Snd G nL Q nx (pc + 1)) : Snd G nL Q (o_xst j nx jp cal) pc := by
  subst e
  intro lv st h z cn sn r hr
  obtain ⟨x, t, rfl, h1⟩ := e_pV_inv (show e_pV st (fun x s => e_vS x fun t => e_if (Nat.beq t 1) (e_nth lv j fun v => e_if (e_one v) (e_upd lv (Nat.succ j) x fun l => nx l s h z cn sn) none) none) = some r from hr)
  obtain ⟨y, rfl, h0⟩ := e_vS_inv h1
  obtain ⟨hy, h1⟩ := e_if_t h0
  have hy := Nat.eq_of_beq_eq_true hy
  subst hy
  obtain ⟨v, h2, h3⟩ := e_nth_inv h1
  obtain ⟨h4, h5⟩ := e_if_t h3
  obtain ⟨h6, h7⟩ := e_upd_inv h5
  obtain ⟨hm, hk⟩ := k _ _ _ _ _ _ _ h7
  refine ⟨hm, fun hc hs ρ ws ls Vs H locs S => ?_⟩
  obtain ⟨V, T, rfl, hV, hT⟩ := vl_cons S.2.1
  obtain ⟨a, rfl⟩ : ∃ a : Nat, V = .ref a := hV
  obtain ⟨hlen, q, hq, hv⟩ := S.1
  refine lv_astore_n w.1 w.2.1 hd hf hq (by rw [← hlen]; exact h6) rfl (fun ls' hl => hk hc hs ρ ws ls' T H locs ⟨?_, hT, S.2.2⟩)
  exact LR_st1 hlen hv (V := .ref a) ⟨a, rfl⟩ (q_ahead h2 h4 rfl) hl
theorem s_inc {i kk : Nat} {n : Int} (w : Wk G cc nL own) (hd : decode cc pc = .ok (.iinc i n, 3)) (e : Int32.ofInt n = nI kk) (k : Snd G nL Q nx (pc + 3)) : Snd G nL Q (o_inc i kk nx jp cal) pc := by
  intro lv st h z cn sn r hr
  obtain ⟨v, h1, h2⟩ := e_nth_inv (show e_nth lv i (fun v => e_vI v fun x => e_force (Nat.mod (Nat.add x kk) 4294967296) fun y => e_upd lv i (.inl y) fun l => nx l st h z cn sn) = some r from hr)
  obtain ⟨x, rfl, h3⟩ := e_vI_inv h2
  rw [e_force_eq] at h3
  obtain ⟨h6, h7⟩ := e_upd_inv h3
  obtain ⟨hm, hk⟩ := k _ _ _ _ _ _ _ h7
  refine ⟨hm, fun hc hs ρ ws ls Vs H locs S => ?_⟩
  obtain ⟨hlen, q, hq, hv⟩ := S.1
  rcases hv i _ h1 with h | ⟨V, hm9, hx, rfl⟩
  · cases h
  · obtain ⟨k9, hk9⟩ := List.getElem?_of_mem hm9
    have hy : Nat.mod (Nat.add x kk) 4294967296 < 4294967296 := Nat.mod_lt _ (by decide)
    refine lv_iinc (v := nI (Nat.mod (Nat.add x kk) 4294967296)) w.1 w.2.1 hd hq hk9 (by rw [e, q_add]; rfl) (by rw [← hlen]; exact h6) rfl (fun ls' hl => hk hc hs ρ ws ls' Vs H locs ⟨?_, S.2⟩)
    refine LR_st1 hlen hv ⟨hy, rfl⟩ (fun j u U hj hu hU hcat => ?_) hl
    have hi : ls[i]? = some (.val (.int (nI x))) := hq.2.2 _ hm9
    have hu2 : u ≠ .inr (.inr (.inr (.inr (.inr 2)))) := fun q => by rw [q] at hU; exact hU
    obtain ⟨U2, h8, h9⟩ := LR_at S.1 hu hu2
    have hc2 : U2.category = 2 := by
      cases ho : e_one u with
      | true => rw [rv_one hU ho] at hcat; cases hcat
      | false => exact rv_two h9 ho
    have h10 := hq.2.1.1 j U2 h8 hc2
    rw [hj, hi] at h10
    cases h10
/-- two ints into one -/
theorem s_bin {f : Nat → Nat → Nat} {g : Int32 → Int32 → Int32} (row : ∀ (H : Heap) (locs : List Loc) (cn sn : Nat) (Q : State → Prop) (ls : Array Slot) (Vs : List Value) (x y : Int32), gW G H locs cn sn Q (F0 (gm G) (pc + 1) ls (.int (g x y) :: Vs)) → gW G H locs cn sn Q (F0 (gm G) pc ls (.int y :: .int x :: Vs))) (hf : ∀ a b, a < 4294967296 → b < 4294967296 → g (nI a) (nI b) = nI (f a b) ∧ f a b < 4294967296) (k : Snd G nL Q nx (pc + 1)) : Snd G nL Q (o_bin f nx jp cal) pc := by
  intro lv st h z cn sn r hr
  obtain ⟨b, t, rfl, h1⟩ := e_pI_inv (show e_pI st (fun b s => e_pI s fun a s => e_force (f a b) fun x => nx lv (.inl x :: s) h z cn sn) = some r from hr)
  obtain ⟨a, t, rfl, h2⟩ := e_pI_inv h1
  rw [e_force_eq] at h2
  obtain ⟨hm, hk⟩ := k _ _ _ _ _ _ _ h2
  refine ⟨hm, fun hc hs ρ ws ls Vs H locs S => ?_⟩
  obtain ⟨T, rfl, hb, hT⟩ := vl_int S.2.1
  obtain ⟨T, rfl, ha, hT⟩ := vl_int hT
  obtain ⟨e1, e2⟩ := hf a b ha hb
  refine row _ _ _ _ _ _ _ _ _ ?_
  rw [e1]
  exact hk hc hs ρ ws ls _ H locs ⟨S.1, ⟨⟨e2, rfl⟩, hT⟩, S.2.2⟩
theorem s_add (w : Wk G cc nL own) (hd : decode cc pc = .ok (.iadd, 1)) (k : Snd G nL Q nx (pc + 1)) : Snd G nL Q (o_bin f_add nx jp cal) pc := s_bin (g := fun x y => x + y) (fun _ _ _ _ _ _ _ _ _ => lv_iadd w.1 w.2.1 hd) (fun a b _ _ => ⟨q_add a b, Nat.mod_lt _ (by decide)⟩) k
theorem s_sub (w : Wk G cc nL own) (hd : decode cc pc = .ok (.isub, 1)) (k : Snd G nL Q nx (pc + 1)) : Snd G nL Q (o_bin f_sub nx jp cal) pc := s_bin (g := fun x y => x - y) (fun _ _ _ _ _ _ _ _ _ => lv_isub w.1 w.2.1 hd) (fun a b _ hb => ⟨q_sub hb, Nat.mod_lt _ (by decide)⟩) k
theorem s_mul (w : Wk G cc nL own) (hd : decode cc pc = .ok (.imul, 1)) (k : Snd G nL Q nx (pc + 1)) : Snd G nL Q (o_bin f_mul nx jp cal) pc := s_bin (g := fun x y => x * y) (fun _ _ _ _ _ _ _ _ _ => lv_imul w.1 w.2.1 hd) (fun a b _ _ => ⟨q_mul a b, Nat.mod_lt _ (by decide)⟩) k
theorem s_and (w : Wk G cc nL own) (hd : decode cc pc = .ok (.iand, 1)) (k : Snd G nL Q nx (pc + 1)) : Snd G nL Q (o_bin f_and nx jp cal) pc := s_bin (g := fun x y => x &&& y) (fun _ _ _ _ _ _ _ _ _ => lv_iand w.1 w.2.1 hd) (fun a b ha _ => ⟨q_and a b, Nat.lt_of_le_of_lt Nat.and_le_left ha⟩) k
theorem s_or (w : Wk G cc nL own) (hd : decode cc pc = .ok (.ior, 1)) (k : Snd G nL Q nx (pc + 1)) : Snd G nL Q (o_bin f_or nx jp cal) pc := s_bin (g := fun x y => x ||| y) (fun _ _ _ _ _ _ _ _ _ => lv_ior w.1 w.2.1 hd) (fun a b ha hb => ⟨q_or a b, Nat.or_lt_two_pow (n := 32) ha hb⟩) k
theorem s_un {f : Nat → Nat} {g : Int32 → Int32} (row : ∀ (H : Heap) (locs : List Loc) (cn sn : Nat) (Q : State → Prop) (ls : Array Slot) (Vs : List Value) (x : Int32), gW G H locs cn sn Q (F0 (gm G) (pc + 1) ls (.int (g x) :: Vs)) → gW G H locs cn sn Q (F0 (gm G) pc ls (.int x :: Vs))) (hf : ∀ a, a < 4294967296 → g (nI a) = nI (f a) ∧ f a < 4294967296) (k : Snd G nL Q nx (pc + 1)) : Snd G nL Q (o_un f nx jp cal) pc := by
  intro lv st h z cn sn r hr
  obtain ⟨a, t, rfl, h2⟩ := e_pI_inv (show e_pI st (fun a s => e_force (f a) fun x => nx lv (.inl x :: s) h z cn sn) = some r from hr)
  rw [e_force_eq] at h2
  obtain ⟨hm, hk⟩ := k _ _ _ _ _ _ _ h2
  refine ⟨hm, fun hc hs ρ ws ls Vs H locs S => ?_⟩
  obtain ⟨T, rfl, ha, hT⟩ := vl_int S.2.1
  obtain ⟨e1, e2⟩ := hf a ha
  refine row _ _ _ _ _ _ _ _ ?_
  rw [e1]
  exact hk hc hs ρ ws ls _ H locs ⟨S.1, ⟨⟨e2, rfl⟩, hT⟩, S.2.2⟩
theorem s_neg (w : Wk G cc nL own) (hd : decode cc pc = .ok (.ineg, 1)) (k : Snd G nL Q nx (pc + 1)) : Snd G nL Q (o_un f_neg nx jp cal) pc := s_un (g := fun x => -x) (fun _ _ _ _ _ _ _ _ => lv_ineg w.1 w.2.1 hd) (fun a ha => ⟨q_neg ha, Nat.mod_lt _ (by decide)⟩) k
theorem s_chr (w : Wk G cc nL own) (hd : decode cc pc = .ok (.i2c, 1)) (k : Snd G nL Q nx (pc + 1)) : Snd G nL Q (o_un f_char nx jp cal) pc := s_un (g := fun x => (x.toUInt32 % 65536).toInt32) (fun _ _ _ _ _ _ _ _ => lv_i2c w.1 w.2.1 hd rfl) (fun a ha => ⟨q_char ha, Nat.lt_of_lt_of_le (Nat.mod_lt _ (by decide)) (by decide : 65536 ≤ 4294967296)⟩) k
theorem s_rem (w : Wk G cc nL own) (hd : decode cc pc = .ok (.irem, 1)) (k : Snd G nL Q nx (pc + 1)) : Snd G nL Q (o_rem nx jp cal) pc := by
  intro lv st h z cn sn r hr
  obtain ⟨b, t, rfl, h1⟩ := e_pI_inv (show e_pI st (fun b s => e_pI s fun a s => e_if (Nat.ble 1 b) (e_if (Nat.ble b 2147483647) (e_if (Nat.ble a 2147483647) (e_force (Nat.mod a b) fun x => nx lv (.inl x :: s) h z cn sn) none) none) none) = some r from hr)
  obtain ⟨a, t, rfl, h2⟩ := e_pI_inv h1
  obtain ⟨b1, h2⟩ := e_if_t h2
  obtain ⟨b2, h2⟩ := e_if_t h2
  obtain ⟨b3, h2⟩ := e_if_t h2
  have b1 := Nat.le_of_ble_eq_true b1
  have b2 := Nat.le_of_ble_eq_true b2
  have b3 := Nat.le_of_ble_eq_true b3
  rw [e_force_eq] at h2
  obtain ⟨hm, hk⟩ := k _ _ _ _ _ _ _ h2
  refine ⟨hm, fun hc hs ρ ws ls Vs H locs S => ?_⟩
  obtain ⟨T, rfl, hb, hT⟩ := vl_int S.2.1
  obtain ⟨T, rfl, ha, hT⟩ := vl_int hT
  refine lv_irem w.1 w.2.1 hd (fun q => by have := (q_eq0 hb).mp q; omega) ?_
  rw [pk_rem (by omega) (by omega) (by omega)]
  exact hk hc hs ρ ws ls _ H locs ⟨S.1, ⟨⟨Nat.lt_of_le_of_lt (Nat.mod_le a b) ha, rfl⟩, hT⟩, S.2.2⟩
theorem s_shr (w : Wk G cc nL own) (hd : decode cc pc = .ok (.ishr, 1)) (k : Snd G nL Q nx (pc + 1)) : Snd G nL Q (o_shr nx jp cal) pc := by
  intro lv st h z cn sn r hr
  obtain ⟨b, t, rfl, h1⟩ := e_pI_inv (show e_pI st (fun b s => e_pI s fun a s => e_if (Nat.ble b 31) (e_if (Nat.ble a 2147483647) (e_force (Nat.div a (Nat.pow 2 b)) fun x => nx lv (.inl x :: s) h z cn sn) none) none) = some r from hr)
  obtain ⟨a, t, rfl, h2⟩ := e_pI_inv h1
  obtain ⟨b1, h2⟩ := e_if_t h2
  obtain ⟨b2, h2⟩ := e_if_t h2
  have b1 := Nat.le_of_ble_eq_true b1
  have b2 := Nat.le_of_ble_eq_true b2
  rw [e_force_eq] at h2
  obtain ⟨hm, hk⟩ := k _ _ _ _ _ _ _ h2
  refine ⟨hm, fun hc hs ρ ws ls Vs H locs S => ?_⟩
  obtain ⟨T, rfl, hb, hT⟩ := vl_int S.2.1
  obtain ⟨T, rfl, ha, hT⟩ := vl_int hT
  refine lv_ishr w.1 w.2.1 hd ?_
  rw [pk_shrN (by omega) _ b (q_shr b (by omega))]
  exact hk hc hs ρ ws ls _ H locs ⟨S.1, ⟨⟨Nat.lt_of_le_of_lt (Nat.div_le_self a _) ha, rfl⟩, hT⟩, S.2.2⟩
theorem s_dup (w : Wk G cc nL own) (hd : decode cc pc = .ok (.dup, 1)) (k : Snd G nL Q nx (pc + 1)) : Snd G nL Q (o_dup nx jp cal) pc := by
  intro lv st h z cn sn r hr
  obtain ⟨v, t, rfl, h1⟩ := e_pV_inv (show e_pV st (fun v t => e_if (e_one v) (nx lv (v :: v :: t) h z cn sn) none) = some r from hr)
  obtain ⟨h1, h2⟩ := e_if_t h1
  obtain ⟨hm, hk⟩ := k _ _ _ _ _ _ _ h2
  refine ⟨hm, fun hc hs ρ ws ls Vs H locs S => ?_⟩
  obtain ⟨V, T, rfl, hV, hT⟩ := vl_cons S.2.1
  exact lv_dup w.1 w.2.1 hd (rv_one hV h1) (hk hc hs ρ ws ls _ H locs ⟨S.1, ⟨hV, hV, hT⟩, S.2.2⟩)
theorem s_pop (w : Wk G cc nL own) (hd : decode cc pc = .ok (.pop, 1)) (k : Snd G nL Q nx (pc + 1)) : Snd G nL Q (o_pop nx jp cal) pc := by
  intro lv st h z cn sn r hr
  obtain ⟨v, t, rfl, h1⟩ := e_pV_inv (show e_pV st (fun v t => e_if (e_one v) (nx lv t h z cn sn) none) = some r from hr)
  obtain ⟨h1, h2⟩ := e_if_t h1
  obtain ⟨hm, hk⟩ := k _ _ _ _ _ _ _ h2
  refine ⟨hm, fun hc hs ρ ws ls Vs H locs S => ?_⟩
  obtain ⟨V, T, rfl, hV, hT⟩ := vl_cons S.2.1
  exact lv_pop w.1 w.2.1 hd (rv_one hV h1) (hk hc hs ρ ws ls _ H locs ⟨S.1, hT, S.2.2⟩)
theorem s_dup2 (w : Wk G cc nL own) (hd : decode cc pc = .ok (.dup2, 1)) (k : Snd G nL Q nx (pc + 1)) : Snd G nL Q (o_dup2 nx jp cal) pc := by
  intro lv st h z cn sn r hr
  obtain ⟨v, t, rfl, h1⟩ := e_pV_inv (show e_pV st (fun v t => e_pV t fun w t => e_if (e_one v) (e_if (e_one w) (nx lv (v :: w :: v :: w :: t) h z cn sn) none) none) = some r from hr)
  obtain ⟨v2, t, rfl, h1⟩ := e_pV_inv h1
  obtain ⟨h1, h2⟩ := e_if_t h1
  obtain ⟨h3, h2⟩ := e_if_t h2
  obtain ⟨hm, hk⟩ := k _ _ _ _ _ _ _ h2
  refine ⟨hm, fun hc hs ρ ws ls Vs H locs S => ?_⟩
  obtain ⟨V, T, rfl, hV, hT⟩ := vl_cons S.2.1
  obtain ⟨V2, T, rfl, hV2, hT⟩ := vl_cons hT
  exact lv_dup2_11 w.1 w.2.1 hd (rv_one hV h1) (rv_one hV2 h3) (hk hc hs ρ ws ls _ H locs ⟨S.1, ⟨hV, hV2, hV, hV2, hT⟩, S.2.2⟩)
theorem s_go {off : Int} {t tgt : Nat} (w : Wk G cc nL own) (hd : decode cc pc = .ok (.goto off, 3)) (ht : (pc : Int) + off = (tgt : Int)) (k : Snd G nL Q (jp t) tgt) : Snd G nL Q (o_go t nx jp cal) pc := by
  intro lv st h z cn sn r hr
  obtain ⟨hm, hk⟩ := k lv st h z cn sn r hr
  exact ⟨hm, fun hc hs ρ ws ls Vs H locs S => lv_goto w.1 w.2.1 hd ht (hk hc hs ρ ws ls Vs H locs S)⟩
theorem s_if {P : Int32 → Prop} {p : Nat → Bool} {t tgt : Nat} (row : ∀ (H : Heap) (locs : List Loc) (cn sn : Nat) (Q : State → Prop) (ls : Array Slot) (Vs : List Value) (x : Int32), (P x → gW G H locs cn sn Q (F0 (gm G) tgt ls Vs)) → (¬ P x → gW G H locs cn sn Q (F0 (gm G) (pc + 3) ls Vs)) → gW G H locs cn sn Q (F0 (gm G) pc ls (.int x :: Vs))) (hp : ∀ a, a < 4294967296 → (P (nI a) ↔ p a = true)) (kt : Snd G nL Q (jp t) tgt) (k : Snd G nL Q nx (pc + 3)) : Snd G nL Q (o_if t p nx jp cal) pc := by
  intro lv st h z cn sn r hr
  obtain ⟨a, s, rfl, h1⟩ := e_pI_inv (show e_pI st (fun a s => e_if (p a) (jp t lv s h z cn sn) (nx lv s h z cn sn)) = some r from hr)
  rcases e_if_inv h1 with ⟨hb, h2⟩ | ⟨hb, h2⟩
  · obtain ⟨hm, hk⟩ := kt _ _ _ _ _ _ _ h2
    refine ⟨hm, fun hc hs ρ ws ls Vs H locs S => ?_⟩
    obtain ⟨T, rfl, ha, hT⟩ := vl_int S.2.1
    exact row _ _ _ _ _ _ _ _ (fun _ => hk hc hs ρ ws ls T H locs ⟨S.1, hT, S.2.2⟩) (fun q => absurd ((hp a ha).mpr hb) q)
  · obtain ⟨hm, hk⟩ := k _ _ _ _ _ _ _ h2
    refine ⟨hm, fun hc hs ρ ws ls Vs H locs S => ?_⟩
    obtain ⟨T, rfl, ha, hT⟩ := vl_int S.2.1
    exact row _ _ _ _ _ _ _ _ (fun q => by rw [(hp a ha).mp q] at hb; cases hb) (fun _ => hk hc hs ρ ws ls T H locs ⟨S.1, hT, S.2.2⟩)
theorem q_not {b : Bool} {P : Prop} (h : P ↔ b = true) : ¬ P ↔ Bool.not b = true := by
  cases b with
  | true => simp [h]
  | false => simp [h]
theorem q_beq (a b : Nat) : a = b ↔ Nat.beq a b = true := ⟨fun h => by rw [h]; exact Nat.beq_refl b, Nat.eq_of_beq_eq_true⟩
theorem q_ble (a b : Nat) : a ≤ b ↔ Nat.ble a b = true := ⟨Nat.ble_eq_true_of_le, Nat.le_of_ble_eq_true⟩
theorem s_ifeq {off : Int} {t tgt : Nat} (w : Wk G cc nL own) (hd : decode cc pc = .ok (.ifCond .eq off, 3)) (ht : (pc : Int) + off = (tgt : Int)) (kt : Snd G nL Q (jp t) tgt) (k : Snd G nL Q nx (pc + 3)) : Snd G nL Q (o_if t p_eq0 nx jp cal) pc := s_if (P := fun x => x = 0) (fun _ _ _ _ _ _ _ _ => lv_if_eq w.1 w.2.1 hd ht) (fun a ha => (q_eq0 ha).trans (q_beq a 0)) kt k
theorem s_ifne {off : Int} {t tgt : Nat} (w : Wk G cc nL own) (hd : decode cc pc = .ok (.ifCond .ne off, 3)) (ht : (pc : Int) + off = (tgt : Int)) (kt : Snd G nL Q (jp t) tgt) (k : Snd G nL Q nx (pc + 3)) : Snd G nL Q (o_if t p_ne0 nx jp cal) pc := s_if (P := fun x => ¬ x = 0) (fun _ _ _ _ _ _ _ _ kt kf => lv_if_ne w.1 w.2.1 hd ht kt (fun q => kf (fun h => h q))) (fun a ha => q_not ((q_eq0 ha).trans (q_beq a 0))) kt k
theorem s_iflt {off : Int} {t tgt : Nat} (w : Wk G cc nL own) (hd : decode cc pc = .ok (.ifCond .lt off, 3)) (ht : (pc : Int) + off = (tgt : Int)) (kt : Snd G nL Q (jp t) tgt) (k : Snd G nL Q nx (pc + 3)) : Snd G nL Q (o_if t p_lt0 nx jp cal) pc := s_if (P := fun x => x < 0) (fun _ _ _ _ _ _ _ _ => lv_if_lt w.1 w.2.1 hd ht) (fun a ha => (q_lt0 ha).trans (q_not (q_ble a 2147483647))) kt k
theorem s_ifle {off : Int} {t tgt : Nat} (w : Wk G cc nL own) (hd : decode cc pc = .ok (.ifCond .le off, 3)) (ht : (pc : Int) + off = (tgt : Int)) (kt : Snd G nL Q (jp t) tgt) (k : Snd G nL Q nx (pc + 3)) : Snd G nL Q (o_if t p_le0 nx jp cal) pc := s_if (P := fun x => x ≤ 0) (fun _ _ _ _ _ _ _ _ => lv_if_le w.1 w.2.1 hd ht) (fun a ha => (q_le0 ha).trans (by
  show _ ↔ Bool.rec (motive := fun _ => Bool) (Bool.not (Nat.ble a 2147483647)) true (Nat.beq a 0) = true
  cases hb : Nat.beq a 0 with
  | true => exact ⟨fun _ => rfl, fun _ => Or.inl (Nat.eq_of_beq_eq_true hb)⟩
  | false => exact ⟨fun q => (q_not (q_ble a 2147483647)).mp (q.resolve_left (fun e => by rw [(q_beq a 0).mp e] at hb; cases hb)), fun q => Or.inr ((q_not (q_ble a 2147483647)).mpr q)⟩)) kt k
theorem s_if2 {P : Int32 → Int32 → Prop} {p : Nat → Nat → Bool} {t tgt : Nat} (row : ∀ (H : Heap) (locs : List Loc) (cn sn : Nat) (Q : State → Prop) (ls : Array Slot) (Vs : List Value) (x y : Int32), (P x y → gW G H locs cn sn Q (F0 (gm G) tgt ls Vs)) → (¬ P x y → gW G H locs cn sn Q (F0 (gm G) (pc + 3) ls Vs)) → gW G H locs cn sn Q (F0 (gm G) pc ls (.int y :: .int x :: Vs))) (hp : ∀ a b, a < 4294967296 → b < 4294967296 → (P (nI a) (nI b) ↔ p a b = true)) (kt : Snd G nL Q (jp t) tgt) (k : Snd G nL Q nx (pc + 3)) : Snd G nL Q (o_if2 t p nx jp cal) pc := by
  intro lv st h z cn sn r hr
  obtain ⟨b, s, rfl, h1⟩ := e_pI_inv (show e_pI st (fun b s => e_pI s fun a s => e_if (p a b) (jp t lv s h z cn sn) (nx lv s h z cn sn)) = some r from hr)
  obtain ⟨a, s, rfl, h1⟩ := e_pI_inv h1
  rcases e_if_inv h1 with ⟨hb, h2⟩ | ⟨hb, h2⟩
  · obtain ⟨hm, hk⟩ := kt _ _ _ _ _ _ _ h2
    refine ⟨hm, fun hc hs ρ ws ls Vs H locs S => ?_⟩
    obtain ⟨T, rfl, hb9, hT⟩ := vl_int S.2.1
    obtain ⟨T, rfl, ha, hT⟩ := vl_int hT
    exact row _ _ _ _ _ _ _ _ _ (fun _ => hk hc hs ρ ws ls T H locs ⟨S.1, hT, S.2.2⟩) (fun q => absurd ((hp a b ha hb9).mpr hb) q)
  · obtain ⟨hm, hk⟩ := k _ _ _ _ _ _ _ h2
    refine ⟨hm, fun hc hs ρ ws ls Vs H locs S => ?_⟩
    obtain ⟨T, rfl, hb9, hT⟩ := vl_int S.2.1
    obtain ⟨T, rfl, ha, hT⟩ := vl_int hT
    exact row _ _ _ _ _ _ _ _ _ (fun q => by rw [(hp a b ha hb9).mp q] at hb; cases hb) (fun _ => hk hc hs ρ ws ls T H locs ⟨S.1, hT, S.2.2⟩)
theorem s_ceq {off : Int} {t tgt : Nat} (w : Wk G cc nL own) (hd : decode cc pc = .ok (.if_icmp .eq off, 3)) (ht : (pc : Int) + off = (tgt : Int)) (kt : Snd G nL Q (jp t) tgt) (k : Snd G nL Q nx (pc + 3)) : Snd G nL Q (o_if2 t p_eq nx jp cal) pc := s_if2 (P := fun x y => x = y) (fun _ _ _ _ _ _ _ _ _ => lv_icmp_eq w.1 w.2.1 hd ht) (fun a b ha hb => (q_eq ha hb).trans (q_beq a b)) kt k
theorem s_cne {off : Int} {t tgt : Nat} (w : Wk G cc nL own) (hd : decode cc pc = .ok (.if_icmp .ne off, 3)) (ht : (pc : Int) + off = (tgt : Int)) (kt : Snd G nL Q (jp t) tgt) (k : Snd G nL Q nx (pc + 3)) : Snd G nL Q (o_if2 t p_ne nx jp cal) pc := s_if2 (P := fun x y => ¬ x = y) (fun _ _ _ _ _ _ _ _ _ kt kf => lv_icmp_ne w.1 w.2.1 hd ht kt (fun q => kf (fun h => h q))) (fun a b ha hb => q_not ((q_eq ha hb).trans (q_beq a b))) kt k
theorem s_clt {off : Int} {t tgt : Nat} (w : Wk G cc nL own) (hd : decode cc pc = .ok (.if_icmp .lt off, 3)) (ht : (pc : Int) + off = (tgt : Int)) (kt : Snd G nL Q (jp t) tgt) (k : Snd G nL Q nx (pc + 3)) : Snd G nL Q (o_if2 t p_lt nx jp cal) pc := s_if2 (P := fun x y => x < y) (fun _ _ _ _ _ _ _ _ _ => lv_icmp_lt w.1 w.2.1 hd ht) (fun a b ha hb => (q_lt ha hb).trans (q_not (q_ble _ _))) kt k
theorem s_cge {off : Int} {t tgt : Nat} (w : Wk G cc nL own) (hd : decode cc pc = .ok (.if_icmp .ge off, 3)) (ht : (pc : Int) + off = (tgt : Int)) (kt : Snd G nL Q (jp t) tgt) (k : Snd G nL Q nx (pc + 3)) : Snd G nL Q (o_if2 t p_ge nx jp cal) pc := s_if2 (P := fun x y => y ≤ x) (fun _ _ _ _ _ _ _ _ _ => lv_icmp_ge w.1 w.2.1 hd ht) (fun a b ha hb => (q_le hb ha).trans (q_ble _ _)) kt k
theorem s_cgt {off : Int} {t tgt : Nat} (w : Wk G cc nL own) (hd : decode cc pc = .ok (.if_icmp .gt off, 3)) (ht : (pc : Int) + off = (tgt : Int)) (kt : Snd G nL Q (jp t) tgt) (k : Snd G nL Q nx (pc + 3)) : Snd G nL Q (o_if2 t p_gt nx jp cal) pc := s_if2 (P := fun x y => y < x) (fun _ _ _ _ _ _ _ _ _ => lv_icmp_gt w.1 w.2.1 hd ht) (fun a b ha hb => (q_lt hb ha).trans (q_not (q_ble _ _))) kt k
theorem s_cle {off : Int} {t tgt : Nat} (w : Wk G cc nL own) (hd : decode cc pc = .ok (.if_icmp .le off, 3)) (ht : (pc : Int) + off = (tgt : Int)) (kt : Snd G nL Q (jp t) tgt) (k : Snd G nL Q nx (pc + 3)) : Snd G nL Q (o_if2 t p_le nx jp cal) pc := s_if2 (P := fun x y => x ≤ y) (fun _ _ _ _ _ _ _ _ _ => lv_icmp_le w.1 w.2.1 hd ht) (fun a b ha hb => (q_le ha hb).trans (q_ble _ _)) kt k
end OPS
end
section
section HEAP
variable {G : Gm} {nL : Nat} {Q : Rs → State → Prop} {nx : Kt} {jp : Nat → Kt} {cal : Cal} {cc : ByteArray} {own : String} {pc : Nat}
/-! fields -/
theorem s_get {C : String} {T : u_T} {N ci k len : Nat} (w : Wk G cc nL own) (hc : ev_cl[ci]? = some (C, T, N))
    (row : ∀ (H : Heap) (locs : List Loc) (cn sn : Nat) (Q : State → Prop) (ls : Array Slot) (Vs : List Value) (ws : va_W) (q0 a : Nat) (Fs : List Value) (V : Value), va_P (gD G) ev_cl ws H → ws[q0]? = some (a, .inr (ci, Fs)) → Fs[k]? = some V → gW G H locs cn sn Q (F0 (gm G) (pc + len) ls (V :: Vs)) → gW G H locs cn sn Q (F0 (gm G) pc ls (.ref a :: Vs)))
    (kk : Snd G nL Q nx (pc + len)) : Snd G nL Q (o_get ci k nx jp cal) pc := by
  intro lv st h z cn sn r hr
  obtain ⟨a, t, rfl, h1⟩ := e_pR_inv (show e_pR st (fun a s => e_op (e_fld h a ci k) fun v => nx lv (v :: s) h z cn sn) = some r from hr)
  obtain ⟨v, h2, h3⟩ := e_op_inv h1
  obtain ⟨fs, h4, h5⟩ := e_fld_inv h2
  obtain ⟨hm, hk⟩ := kk _ _ _ _ _ _ _ h3
  refine ⟨hm, fun hcc hss ρ ws ls Vs H locs S => ?_⟩
  obtain ⟨ad, T2, rfl, ha, hT⟩ := vl_ref S.2.1
  obtain ⟨E, g1, Fs, rfl, g2⟩ := HR_at S.2.2.1 h4 ha
  obtain ⟨V, g3, g4⟩ := vl_at g2 h5
  exact row _ _ _ _ _ _ _ ws a ad Fs V S.2.2.2.2.1 g1 g3 (hk hcc hss ρ ws ls _ H locs ⟨S.1, ⟨g4, hT⟩, S.2.2⟩)
theorem r_get {C : String} {T : u_T} {N ci k ix : Nat} (w : Wk G cc nL own) (hc : ev_cl[ci]? = some (C, T, N)) (hin : ∀ v ∈ u_ws C T N, v ∈ ev_G) (hk : k < N) (hl : Cond.fieldLink own ix (T k).1 (T k).2.1 (T k).2.2.1 ∈ ev_G) (hd : decode cc pc = .ok (.getfield ix, 3)) :
    ∀ (H : Heap) (locs : List Loc) (cn sn : Nat) (Q : State → Prop) (ls : Array Slot) (Vs : List Value) (ws : va_W) (q0 a : Nat) (Fs : List Value) (V : Value), va_P (gD G) ev_cl ws H → ws[q0]? = some (a, .inr (ci, Fs)) → Fs[k]? = some V → gW G H locs cn sn Q (F0 (gm G) (pc + 3) ls (V :: Vs)) → gW G H locs cn sn Q (F0 (gm G) pc ls (.ref a :: Vs)) :=
  fun _ _ _ _ _ _ _ _ q0 _ _ _ hP he hv kk => va_get w.1 w.2.1 (fun v h => w.use h) hin w.2.2.2.1 w.K hP q0 he hc k hk (w.use hl) (fun _ h => h) hv hd kk
theorem r_getN {C host : String} {T : u_T} {N ci k ix : Nat} (w : Wk G cc nL own) (hc : ev_cl[ci]? = some (C, T, N)) (hin : ∀ v ∈ u_ws C T N, v ∈ ev_G) (hk : k < N) (hl : Cond.fieldLinkNest own ix (T k).1 (T k).2.1 (T k).2.2.1 host ∈ ev_N) (hd : decode cc pc = .ok (.getfield ix, 3)) :
    ∀ (H : Heap) (locs : List Loc) (cn sn : Nat) (Q : State → Prop) (ls : Array Slot) (Vs : List Value) (ws : va_W) (q0 a : Nat) (Fs : List Value) (V : Value), va_P (gD G) ev_cl ws H → ws[q0]? = some (a, .inr (ci, Fs)) → Fs[k]? = some V → gW G H locs cn sn Q (F0 (gm G) (pc + 3) ls (V :: Vs)) → gW G H locs cn sn Q (F0 (gm G) pc ls (.ref a :: Vs)) :=
  fun _ _ _ _ _ _ _ _ q0 _ _ _ hP he hv kk => va_getN w.1 w.2.1 (fun v h => w.use h) hin w.2.2.2.1 w.K hP q0 he hc k hk (va_Nw.use rfl (w.cx.2.1 _ hl)) (fun _ h => h) hv hd kk
/-- a store into a field -/
def Put (G : Gm) (pc ci k : Nat) (ty : FieldType) : Prop := ∀ (H : Heap) (locs : List Loc) (cn sn : Nat) (Q : State → Prop) (ls : Array Slot) (Vs : List Value) (ws : va_W) (q0 a : Nat) (Fs : List Value) (V : Value), va_P (gD G) ev_cl ws H → va_D (gA G) ws → va_S (gA G) (gs G).heap H locs → ws[q0]? = some (a, .inr (ci, Fs)) → narrow ty V = V → fits ty V = true → k < Fs.length →
  (∀ (H1 : Heap) (locs1 : List Loc), va_P (gD G) ev_cl (ws.set q0 (a, .inr (ci, Fs.set k V))) H1 → va_D (gA G) (ws.set q0 (a, .inr (ci, Fs.set k V))) → va_S (gA G) (gs G).heap H1 locs1 → gW G H1 locs1 cn sn Q (F0 (gm G) (pc + 3) ls Vs)) → gW G H locs cn sn Q (F0 (gm G) pc ls (V :: .ref a :: Vs))
theorem r_put {C : String} {T : u_T} {ty0 : Nat → FieldType} {N ci k ix : Nat} (w : Wk G cc nL own) (hc : ev_cl[ci]? = some (C, T, N)) (hin : ∀ v ∈ u_ws C T N, v ∈ ev_G) (hty : ∀ k, k < N → parseFieldDescriptor (T k).2.2.1 = some (ty0 k)) (hnm : ∀ a, a < N → ∀ b, b < N → a ≠ b → (T a).2.1 ≠ (T b).2.1) (hk : k < N) (hl : Cond.fieldLink own ix (T k).1 (T k).2.1 (T k).2.2.1 ∈ ev_G) (hf : (T k).2.2.2 = false) (hd : decode cc pc = .ok (.putfield ix, 3)) : Put G pc ci k (ty0 k) :=
  fun _ _ _ _ _ _ _ _ q0 _ _ _ hP hD hS he hn hft hlen kk => va_put w.1 w.2.1 (fun v h => w.use h) hin ty0 hty hnm w.2.2.2.1 w.K hP hD hS q0 he hc k hk (w.use hl) (fun _ h => h) hf (hty k hk) hn hft hlen hd kk
theorem r_putF {C : String} {T : u_T} {ty0 : Nat → FieldType} {N ci k ix : Nat} (w : Wk G cc nL own) (hc : ev_cl[ci]? = some (C, T, N)) (hin : ∀ v ∈ u_ws C T N, v ∈ ev_G) (hty : ∀ k, k < N → parseFieldDescriptor (T k).2.2.1 = some (ty0 k)) (hnm : ∀ a, a < N → ∀ b, b < N → a ≠ b → (T a).2.1 ≠ (T b).2.1) (hk : k < N) (hl : Cond.fieldLink own ix (T k).1 (T k).2.1 (T k).2.2.1 ∈ ev_G) (hf : (T k).2.2.2 = true) (hi : (gk G).name = "<init>") (ho : (T k).1 = own) (hd : decode cc pc = .ok (.putfield ix, 3)) : Put G pc ci k (ty0 k) :=
  fun _ _ _ _ _ _ _ _ q0 _ _ _ hP hD hS he hn hft hlen kk => va_putF w.1 w.2.1 (fun v h => w.use h) hin ty0 hty hnm w.2.2.2.1 w.K hP hD hS q0 he hc k hk (w.use hl) (fun _ h => h) hf hi ho (hty k hk) hn hft hlen hd kk
theorem r_putN {C host : String} {T : u_T} {ty0 : Nat → FieldType} {N ci k ix : Nat} (w : Wk G cc nL own) (hc : ev_cl[ci]? = some (C, T, N)) (hin : ∀ v ∈ u_ws C T N, v ∈ ev_G) (hty : ∀ k, k < N → parseFieldDescriptor (T k).2.2.1 = some (ty0 k)) (hnm : ∀ a, a < N → ∀ b, b < N → a ≠ b → (T a).2.1 ≠ (T b).2.1) (hk : k < N) (hl : Cond.fieldLinkNest own ix (T k).1 (T k).2.1 (T k).2.2.1 host ∈ ev_N) (hf : (T k).2.2.2 = false) (hd : decode cc pc = .ok (.putfield ix, 3)) : Put G pc ci k (ty0 k) :=
  fun _ _ _ _ _ _ _ _ q0 _ _ _ hP hD hS he hn hft hlen kk => va_putN w.1 w.2.1 (fun v h => w.use h) hin ty0 hty hnm w.2.2.2.1 w.K hP hD hS q0 he hc k hk (va_Nw.use rfl (w.cx.2.1 _ hl)) (fun _ h => h) hf (hty k hk) hn hft hlen hd kk
theorem s_put {ci k : Nat} {ty : FieldType} {v : AV} {st : List AV} {lv : List AV} {h : AH} {z cn sn : Nat} {r : Rs} {a : Nat} (row : Put G pc ci k ty) (kk : Snd G nL Q nx (pc + 3)) (hv : ∀ ρ V, rv (gX G) ρ v V → narrow ty V = V ∧ fits ty V = true)
    (hr : (e_obj h a ci fun fs => e_upd fs k v fun fs => e_hup h a (.inl (ci, fs)) fun h => nx lv st h z cn sn) = some r) : (cn ≤ r.2.2.2.1 ∧ sn ≤ r.2.2.2.2) ∧ (r.2.2.2.1 ≤ (gR G).cells → r.2.2.2.2 ≤ (gR G).slots → ∀ (ρ : List Nat) (ws : va_W) (ls : Array Slot) (Vs : List Value) (H : Heap) (locs : List Loc), St G nL lv (v :: .inr (.inl (a + 1)) :: st) h z ρ ws ls Vs H locs → gW G H locs cn sn (Q r) (F0 (gm G) pc ls Vs)) := by
  obtain ⟨fs, h1, h2⟩ := e_op_inv hr
  have h1 := e_kind_inv h1
  obtain ⟨h3, h4⟩ := e_upd_inv h2
  obtain ⟨h', h5, h6, h7, h8⟩ := e_hup_inv h4
  obtain ⟨hm, hk⟩ := kk _ _ _ _ _ _ _ h5
  refine ⟨hm, fun hcc hss ρ ws ls Vs H locs S => ?_⟩
  obtain ⟨V, T1, rfl, hV, hT1⟩ := vl_cons S.2.1
  obtain ⟨ad, T2, rfl, ha, hT⟩ := vl_ref hT1
  obtain ⟨E, g1, Fs, rfl, g2⟩ := HR_at S.2.2.1 h1 ha
  obtain ⟨n1, n2⟩ := hv ρ V hV
  refine row _ _ _ _ _ _ _ ws a ad Fs V S.2.2.2.2.1 S.2.2.2.2.2.1 S.2.2.2.2.2.2 g1 n1 n2 (by rw [vl_len g2]; exact h3) (fun H1 locs1 hP hD hS => ?_)
  exact hk hcc hss ρ _ ls T2 H1 locs1 ⟨S.1, hT, HR_set S.2.2.1 g1 (h6 z S.2.2.1.1) h7 h8 ⟨_, rfl, vl_set g2 hV⟩, S.2.2.2.1, hP, hD, hS⟩
theorem s_putI {ci k : Nat} (row : Put G pc ci k .int) (kk : Snd G nL Q nx (pc + 3)) : Snd G nL Q (o_putI ci k nx jp cal) pc := by
  intro lv st h z cn sn r hr
  obtain ⟨x, t, rfl, h1⟩ := e_pI_inv (show e_pI st (fun x s => e_pR s fun a s => e_obj h a ci fun fs => e_upd fs k (.inl x) fun fs => e_hup h a (.inl (ci, fs)) fun h => nx lv s h z cn sn) = some r from hr)
  obtain ⟨a, t, rfl, h2⟩ := e_pR_inv h1
  exact s_put row kk (fun ρ V hV => by obtain ⟨-, rfl⟩ := (show x < 4294967296 ∧ V = .int (nI x) from hV); exact ⟨rfl, rfl⟩) h2
theorem s_putZ {ci k : Nat} (row : Put G pc ci k .boolean) (kk : Snd G nL Q nx (pc + 3)) : Snd G nL Q (o_putZ ci k nx jp cal) pc := by
  intro lv st h z cn sn r hr
  obtain ⟨x, t, rfl, h1⟩ := e_pI_inv (show e_pI st (fun x s => e_if (Nat.ble x 1) (e_pR s fun a s => e_obj h a ci fun fs => e_upd fs k (.inl x) fun fs => e_hup h a (.inl (ci, fs)) fun h => nx lv s h z cn sn) none) = some r from hr)
  obtain ⟨hb, h1⟩ := e_if_t h1
  have hb := Nat.le_of_ble_eq_true hb
  obtain ⟨a, t, rfl, h2⟩ := e_pR_inv h1
  refine s_put row kk (fun ρ V hV => ?_) h2
  obtain ⟨-, rfl⟩ := (show x < 4294967296 ∧ V = .int (nI x) from hV)
  rcases (show x = 0 ∨ x = 1 by omega) with rfl | rfl
  · exact ⟨rfl, rfl⟩
  · exact ⟨rfl, rfl⟩
theorem s_putR {ci k : Nat} {ty : FieldType} (ht : (∃ n, ty = .object n) ∨ ∃ t, ty = .array t) (row : Put G pc ci k ty) (kk : Snd G nL Q nx (pc + 3)) : Snd G nL Q (o_putR ci k nx jp cal) pc := by
  intro lv st h z cn sn r hr
  obtain ⟨x, t, rfl, h1⟩ := e_pR_inv (show e_pR st (fun x s => e_pR s fun a s => e_obj h a ci fun fs => e_upd fs k (.inr (.inl (Nat.succ x))) fun fs => e_hup h a (.inl (ci, fs)) fun h => nx lv s h z cn sn) = some r from hr)
  obtain ⟨a, t, rfl, h2⟩ := e_pR_inv h1
  refine s_put row kk (fun ρ V hV => ?_) h2
  obtain ⟨q, -, rfl⟩ := (show ∃ q : Nat, ρ[x]? = some q ∧ V = .ref q from hV)
  rcases ht with ⟨n, rfl⟩ | ⟨t, rfl⟩
  · exact ⟨rfl, rfl⟩
  · exact ⟨rfl, rfl⟩
/-! making -/
theorem s_new {C : String} {T : u_T} {ty0 : Nat → FieldType} {N ci ix : Nat} {fs : List AV} {Fs : List Value} (w : Wk G cc nL own) (hc : ev_cl[ci]? = some (C, T, N)) (hin : ∀ v ∈ u_ws C T N, v ∈ ev_G) (hty : ∀ k, k < N → parseFieldDescriptor (T k).2.2.1 = some (ty0 k)) (hl : Cond.classLink own ix C ∈ ev_G) (hi : Cond.instantiable C N ∈ ev_G) (hn : Cond.initialized C ∈ ev_G) (hv : ∀ X ρ, vl X ρ fs Fs) (hfs : ∀ j, j < N → defaultValue (ty0 j) = vp_V Fs j) (hd : decode cc pc = .ok (.new ix, 3)) (kk : Snd G nL Q nx (pc + 3)) : Snd G nL Q (o_new ci N fs nx jp cal) pc := by
  intro lv st h z cn sn r hr
  obtain ⟨h', h1, h2⟩ := e_happ_inv (show (e_happ h z (.inl (ci, fs)) fun h => e_force (Nat.succ z) fun z => e_force (Nat.succ cn) fun c => e_force (Nat.add sn N) fun n => nx lv (.inr (.inl z) :: st) h z c n) = some r from hr)
  simp only [e_force_eq] at h1
  obtain ⟨hm, hk⟩ := kk _ _ _ _ _ _ _ h1
  have hm1 : cn + 1 ≤ r.2.2.2.1 := hm.1
  have hm2 : sn + N ≤ r.2.2.2.2 := hm.2
  refine ⟨⟨by omega, by omega⟩, fun hcc hss ρ ws ls Vs H locs S => ?_⟩
  obtain ⟨w1, w2, w3⟩ := h2 S.2.2.1.1
  refine va_new w.1 w.2.1 (fun v h => w.use h) hin ty0 hty w.2.2.2.1 (w.use hl) (w.use hi) (w.use hn) w.K S.2.2.2.2.1 S.2.2.2.2.2.1 S.2.2.2.2.2.2 w.fresh hc (fs := Fs) hfs (by omega) (by omega) hd (fun q H1 hP hD hS => ?_)
  have hl2 : ρ.length = z := S.2.2.1.2.1
  obtain ⟨t0, ht0⟩ := S.2.2.2.1
  exact hk hcc hss (ρ ++ [q]) _ ls _ H1 locs ⟨LR_more S.1, ⟨⟨q, by rw [List.getElem?_append_right (by omega), hl2, Nat.sub_self]; rfl, rfl⟩, vl_more S.2.1⟩, HR_push S.2.2.1 w1 w2 w3 ⟨Fs, rfl, hv _ _⟩, ⟨t0 ++ [q], by rw [ht0, List.append_assoc]⟩, hP, hD, hS⟩
theorem q_rep (k j x : Nat) (h : (List.replicate k 0)[j]? = some x) : x = 0 := by
  have := List.mem_of_getElem? h
  exact (List.mem_replicate.mp this).2
theorem s_newI (w : Wk G cc nL own) (ha : Cond.arrayClass .int ∈ ev_G) (hd : decode cc pc = .ok (.newarray .int, 2)) (kk : Snd G nL Q nx (pc + 2)) : Snd G nL Q (o_newI nx jp cal) pc := by
  intro lv st h z cn sn r hr
  obtain ⟨k, t, rfl, h1⟩ := e_pI_inv (show e_pI st (fun k s => e_if (Nat.ble k 1000) (e_rep k fun xs => e_happ h z (.inr (.inl (k, xs))) fun h => e_force (Nat.succ z) fun z => e_force (Nat.succ cn) fun c => e_force (Nat.add sn k) fun n => nx lv (.inr (.inl z) :: s) h z c n) none) = some r from hr)
  obtain ⟨hb, h1⟩ := e_if_t h1
  have hb := Nat.le_of_ble_eq_true hb
  rw [e_rep_eq] at h1
  obtain ⟨h', h1, h2⟩ := e_happ_inv h1
  simp only [e_force_eq] at h1
  obtain ⟨hm, hk⟩ := kk _ _ _ _ _ _ _ h1
  have hm1 : cn + 1 ≤ r.2.2.2.1 := hm.1
  have hm2 : sn + k ≤ r.2.2.2.2 := hm.2
  refine ⟨⟨by omega, by omega⟩, fun hcc hss ρ ws ls Vs H locs S => ?_⟩
  obtain ⟨w1, w2, w3⟩ := h2 S.2.2.1.1
  obtain ⟨T, rfl, hx, hT⟩ := vl_int S.2.1
  refine va_newa (atype := .int) (a0 := (k, .inl (fun _ => 0))) (N' := k) w.1 w.2.1 (w.use ha) rfl w.K S.2.2.2.2.1 S.2.2.2.2.2.1 S.2.2.2.2.2.2 w.fresh (fun _ => rfl) (fun q => by have := (q_lt0 hx).mp q; omega) (q_cl (by omega)) (by show k * 4 ≤ _; omega) (by omega) (by omega) hd (fun q cA H1 hK hP hD hS => ?_)
  have e1 : (gs G).vm.findClass ("[" ++ FieldType.int.toString) = some cA := (hK.2 2 _ rfl).2
  have e2 : (gs G).vm.findClass ("[" ++ FieldType.int.toString) = some (gAi G) := (w.K.2 0 _ rfl).2
  have e3 : gAi G = cA := Option.some.inj (e2.symm.trans e1)
  subst e3
  have hl2 : ρ.length = z := S.2.2.1.2.1
  obtain ⟨t0, ht0⟩ := S.2.2.2.1
  refine hk hcc hss (ρ ++ [q]) _ ls _ H1 locs ⟨LR_more S.1, ⟨⟨q, by rw [List.getElem?_append_right (by omega), hl2, Nat.sub_self]; rfl, rfl⟩, vl_more hT⟩, HR_push S.2.2.1 w1 w2 w3 ⟨_, rfl, (List.length_replicate).symm, hb, fun j x hj => ?_⟩, ⟨t0 ++ [q], by rw [ht0, List.append_assoc]⟩, hP, hD, hS⟩
  rw [q_rep _ _ _ hj]
  exact ⟨by decide, rfl⟩
theorem s_newD (w : Wk G cc nL own) (ha : Cond.arrayClass .double ∈ ev_G) (hd : decode cc pc = .ok (.newarray .double, 2)) (kk : Snd G nL Q nx (pc + 2)) : Snd G nL Q (o_newD nx jp cal) pc := by
  intro lv st h z cn sn r hr
  obtain ⟨k, t, rfl, h1⟩ := e_pI_inv (show e_pI st (fun k s => e_if (Nat.ble k 1000) (e_rep k fun xs => e_happ h z (.inr (.inr (k, xs))) fun h => e_force (Nat.succ z) fun z => e_force (Nat.succ cn) fun c => e_force (Nat.add sn k) fun n => nx lv (.inr (.inl z) :: s) h z c n) none) = some r from hr)
  obtain ⟨hb, h1⟩ := e_if_t h1
  have hb := Nat.le_of_ble_eq_true hb
  rw [e_rep_eq] at h1
  obtain ⟨h', h1, h2⟩ := e_happ_inv h1
  simp only [e_force_eq] at h1
  obtain ⟨hm, hk⟩ := kk _ _ _ _ _ _ _ h1
  have hm1 : cn + 1 ≤ r.2.2.2.1 := hm.1
  have hm2 : sn + k ≤ r.2.2.2.2 := hm.2
  refine ⟨⟨by omega, by omega⟩, fun hcc hss ρ ws ls Vs H locs S => ?_⟩
  obtain ⟨w1, w2, w3⟩ := h2 S.2.2.1.1
  obtain ⟨T, rfl, hx, hT⟩ := vl_int S.2.1
  refine va_newa (atype := .double) (a0 := (k, .inr (.inr (.inr (.inl (fun _ => 0)))))) (N' := k) w.1 w.2.1 (w.use ha) rfl w.K S.2.2.2.2.1 S.2.2.2.2.2.1 S.2.2.2.2.2.2 w.fresh (fun _ => rfl) (fun q => by have := (q_lt0 hx).mp q; omega) (q_cl (by omega)) (by show k * 8 ≤ _; omega) (by omega) (by omega) hd (fun q cA H1 hK hP hD hS => ?_)
  have e1 : (gs G).vm.findClass ("[" ++ FieldType.double.toString) = some cA := (hK.2 2 _ rfl).2
  have e2 : (gs G).vm.findClass ("[" ++ FieldType.double.toString) = some (gAd G) := (w.K.2 1 _ rfl).2
  have e3 : gAd G = cA := Option.some.inj (e2.symm.trans e1)
  subst e3
  have hl2 : ρ.length = z := S.2.2.1.2.1
  obtain ⟨t0, ht0⟩ := S.2.2.2.1
  refine hk hcc hss (ρ ++ [q]) _ ls _ H1 locs ⟨LR_more S.1, ⟨⟨q, by rw [List.getElem?_append_right (by omega), hl2, Nat.sub_self]; rfl, rfl⟩, vl_more hT⟩, HR_push S.2.2.1 w1 w2 w3 ⟨_, rfl, (List.length_replicate).symm, hb, fun j x hj => ?_⟩, ⟨t0 ++ [q], by rw [ht0, List.append_assoc]⟩, hP, hD, hS⟩
  rw [q_rep _ _ _ hj]
  exact ⟨by decide, rfl⟩
/-! arrays -/
theorem s_alen (w : Wk G cc nL own) (hd : decode cc pc = .ok (.arraylength, 1)) (kk : Snd G nL Q nx (pc + 1)) : Snd G nL Q (o_alen nx jp cal) pc := by
  intro lv st h z cn sn r hr
  obtain ⟨a, t, rfl, h1⟩ := e_pR_inv (show e_pR st (fun a s => e_op (e_len h a) fun x => nx lv (.inl x :: s) h z cn sn) = some r from hr)
  obtain ⟨x, h2, h3⟩ := e_op_inv h1
  obtain ⟨hm, hk⟩ := kk _ _ _ _ _ _ _ h3
  refine ⟨hm, fun hcc hss ρ ws ls Vs H locs S => ?_⟩
  obtain ⟨ad, T, rfl, ha, hT⟩ := vl_ref S.2.1
  rcases e_len_inv h2 with ⟨xs, h4⟩ | ⟨xs, h4⟩
  · obtain ⟨E, g1, f, rfl, g2, g3, g4⟩ := HR_at S.2.2.1 h4 ha
    exact va_alen w.1 w.2.1 w.K S.2.2.2.2.1 a 0 g1 rfl rfl hd (hk hcc hss ρ ws ls _ H locs ⟨S.1, ⟨⟨by omega, rfl⟩, hT⟩, S.2.2⟩)
  · obtain ⟨E, g1, f, rfl, g2, g3, g4⟩ := HR_at S.2.2.1 h4 ha
    exact va_alen w.1 w.2.1 w.K S.2.2.2.2.1 a 1 g1 rfl rfl hd (hk hcc hss ρ ws ls _ H locs ⟨S.1, ⟨⟨by omega, rfl⟩, hT⟩, S.2.2⟩)
theorem s_iald (w : Wk G cc nL own) (hd : decode cc pc = .ok (.iaload, 1)) (kk : Snd G nL Q nx (pc + 1)) : Snd G nL Q (o_iald nx jp cal) pc := by
  intro lv st h z cn sn r hr
  obtain ⟨i, t, rfl, h1⟩ := e_pI_inv (show e_pI st (fun i s => e_pR s fun a s => e_op (e_elI h a i) fun x => nx lv (.inl x :: s) h z cn sn) = some r from hr)
  obtain ⟨a, t, rfl, h1⟩ := e_pR_inv h1
  obtain ⟨x, h2, h3⟩ := e_op_inv h1
  obtain ⟨⟨n, xs⟩, h4, h5⟩ := e_elI_inv h2
  obtain ⟨hm, hk⟩ := kk _ _ _ _ _ _ _ h3
  refine ⟨hm, fun hcc hss ρ ws ls Vs H locs S => ?_⟩
  obtain ⟨T, rfl, hi, hT⟩ := vl_int S.2.1
  obtain ⟨ad, T, rfl, ha, hT⟩ := vl_ref hT
  obtain ⟨E, g1, f, rfl, g2, g3, g4⟩ := HR_at S.2.2.1 h4 ha
  obtain ⟨g5, g6⟩ := g4 i x h5
  have hlt : i < n := by rw [g2]; exact (List.getElem?_eq_some_iff.mp h5).1
  refine va_iald w.1 w.2.1 w.K S.2.2.2.2.1 a 0 g1 rfl (vp_in_nI hlt (by omega)) hd ?_
  rw [q_cl (by omega), g6]
  exact hk hcc hss ρ ws ls _ H locs ⟨S.1, ⟨⟨g5, rfl⟩, hT⟩, S.2.2⟩
theorem s_iast (w : Wk G cc nL own) (hd : decode cc pc = .ok (.iastore, 1)) (kk : Snd G nL Q nx (pc + 1)) : Snd G nL Q (o_iast nx jp cal) pc := by
  intro lv st h z cn sn r hr
  obtain ⟨x, t, rfl, h1⟩ := e_pI_inv (show e_pI st (fun x s => e_pI s fun i s => e_pR s fun a s => e_arrI h a fun m xs => e_upd xs i x fun xs => e_hup h a (.inr (.inl (m, xs))) fun h => nx lv s h z cn sn) = some r from hr)
  obtain ⟨i, t, rfl, h1⟩ := e_pI_inv h1
  obtain ⟨a, t, rfl, h1⟩ := e_pR_inv h1
  obtain ⟨⟨n, xs⟩, h2, h3⟩ := e_op_inv h1
  have h2 := e_aI_inv h2
  obtain ⟨h4, h5⟩ := e_upd_inv h3
  obtain ⟨h', h6, h7, h8, h9⟩ := e_hup_inv h5
  obtain ⟨hm, hk⟩ := kk _ _ _ _ _ _ _ h6
  refine ⟨hm, fun hcc hss ρ ws ls Vs H locs S => ?_⟩
  obtain ⟨T, rfl, hx, hT⟩ := vl_int S.2.1
  obtain ⟨T, rfl, hi, hT⟩ := vl_int hT
  obtain ⟨ad, T, rfl, ha, hT⟩ := vl_ref hT
  obtain ⟨E, g1, f, rfl, g2, g3, g4⟩ := HR_at S.2.2.1 h2 ha
  have h4 : i < xs.length := h4
  refine va_iast w.1 w.2.1 w.K S.2.2.2.2.1 S.2.2.2.2.2.1 S.2.2.2.2.2.2 a 0 g1 rfl (vp_in_nI (by omega) (by omega)) hd (fun H1 locs1 hP hD hS => ?_)
  refine hk hcc hss ρ _ ls _ H1 locs1 ⟨S.1, hT, HR_set S.2.2.1 g1 (h7 z S.2.2.1.1) h8 h9 ⟨_, rfl, by rw [List.length_set]; exact g2, g3, fun j y hj => ?_⟩, S.2.2.2.1, hP, hD, hS⟩
  rw [q_cl (by omega)]
  show y < 4294967296 ∧ (if j = i then nI x else f j) = nI y
  have hj : (xs.set i x)[j]? = some y := hj
  by_cases hji : j = i
  · subst hji
    rw [List.getElem?_set_self h4] at hj
    cases hj
    exact ⟨hx, if_pos rfl⟩
  · rw [List.getElem?_set_ne (fun q => hji q.symm)] at hj
    rw [if_neg hji]
    exact g4 j y hj
theorem s_dald (w : Wk G cc nL own) (hd : decode cc pc = .ok (.daload, 1)) (kk : Snd G nL Q nx (pc + 1)) : Snd G nL Q (o_dald nx jp cal) pc := by
  intro lv st h z cn sn r hr
  obtain ⟨i, t, rfl, h1⟩ := e_pI_inv (show e_pI st (fun i s => e_pR s fun a s => e_op (e_elD h a i) fun x => nx lv (.inr (.inr (.inr (.inl x))) :: s) h z cn sn) = some r from hr)
  obtain ⟨a, t, rfl, h1⟩ := e_pR_inv h1
  obtain ⟨x, h2, h3⟩ := e_op_inv h1
  obtain ⟨⟨n, xs⟩, h4, h5⟩ := e_elD_inv h2
  obtain ⟨hm, hk⟩ := kk _ _ _ _ _ _ _ h3
  refine ⟨hm, fun hcc hss ρ ws ls Vs H locs S => ?_⟩
  obtain ⟨T, rfl, hi, hT⟩ := vl_int S.2.1
  obtain ⟨ad, T, rfl, ha, hT⟩ := vl_ref hT
  obtain ⟨E, g1, f, rfl, g2, g3, g4⟩ := HR_at S.2.2.1 h4 ha
  obtain ⟨g5, g6⟩ := g4 i x h5
  have hlt : i < n := by rw [g2]; exact (List.getElem?_eq_some_iff.mp h5).1
  refine va_dald w.1 w.2.1 w.K S.2.2.2.2.1 a 1 g1 rfl (vp_in_nI hlt (by omega)) hd ?_
  rw [q_cl (by omega), g6]
  exact hk hcc hss ρ ws ls _ H locs ⟨S.1, ⟨⟨g5, rfl⟩, hT⟩, S.2.2⟩
theorem s_dast (w : Wk G cc nL own) (hd : decode cc pc = .ok (.dastore, 1)) (kk : Snd G nL Q nx (pc + 1)) : Snd G nL Q (o_dast nx jp cal) pc := by
  intro lv st h z cn sn r hr
  obtain ⟨v, t, rfl, h1⟩ := e_pV_inv (show e_pV st (fun v s => e_vD v fun x => e_pI s fun i s => e_pR s fun a s => e_arrD h a fun m xs => e_upd xs i x fun xs => e_hup h a (.inr (.inr (m, xs))) fun h => nx lv s h z cn sn) = some r from hr)
  obtain ⟨x, rfl, h1⟩ := e_vD_inv h1
  obtain ⟨i, t, rfl, h1⟩ := e_pI_inv h1
  obtain ⟨a, t, rfl, h1⟩ := e_pR_inv h1
  obtain ⟨⟨n, xs⟩, h2, h3⟩ := e_op_inv h1
  have h2 := e_aD_inv h2
  obtain ⟨h4, h5⟩ := e_upd_inv h3
  obtain ⟨h', h6, h7, h8, h9⟩ := e_hup_inv h5
  obtain ⟨hm, hk⟩ := kk _ _ _ _ _ _ _ h6
  refine ⟨hm, fun hcc hss ρ ws ls Vs H locs S => ?_⟩
  obtain ⟨V, T, rfl, hV, hT⟩ := vl_cons S.2.1
  obtain ⟨hx, rfl⟩ := (show x < 18446744073709551616 ∧ V = .double (UInt64.ofNat x) from hV)
  obtain ⟨T, rfl, hi, hT⟩ := vl_int hT
  obtain ⟨ad, T, rfl, ha, hT⟩ := vl_ref hT
  obtain ⟨E, g1, f, rfl, g2, g3, g4⟩ := HR_at S.2.2.1 h2 ha
  have h4 : i < xs.length := h4
  refine va_dast w.1 w.2.1 w.K S.2.2.2.2.1 S.2.2.2.2.2.1 S.2.2.2.2.2.2 a 1 g1 rfl (vp_in_nI (by omega) (by omega)) hd (fun H1 locs1 hP hD hS => ?_)
  refine hk hcc hss ρ _ ls _ H1 locs1 ⟨S.1, hT, HR_set S.2.2.1 g1 (h7 z S.2.2.1.1) h8 h9 ⟨_, rfl, by rw [List.length_set]; exact g2, g3, fun j y hj => ?_⟩, S.2.2.2.1, hP, hD, hS⟩
  rw [q_cl (by omega)]
  show y < 18446744073709551616 ∧ (if j = i then UInt64.ofNat x else f j) = UInt64.ofNat y
  have hj : (xs.set i x)[j]? = some y := hj
  by_cases hji : j = i
  · subst hji
    rw [List.getElem?_set_self h4] at hj
    cases hj
    exact ⟨hx, if_pos rfl⟩
  · rw [List.getElem?_set_ne (fun q => hji q.symm)] at hj
    rw [if_neg hji]
    exact g4 j y hj
end HEAP
end
section
/-! doubles, floats, longs -/
theorem q_u64 {a : Nat} (h : a < 18446744073709551616) : (UInt64.ofNat a).toNat = a := by
  show a % 2 ^ 64 = a
  omega
theorem q_u32 {a : Nat} (h : a < 4294967296) : (UInt32.ofNat a).toNat = a := by
  show a % 2 ^ 32 = a
  omega
theorem q_m64 (n : Nat) : UInt64.ofNat (Nat.mod n 18446744073709551616) = UInt64.ofNat n := by
  apply UInt64.toNat_inj.mp
  show n % 18446744073709551616 % 2 ^ 64 = n % 2 ^ 64
  omega
theorem q_m32 (n : Nat) : UInt32.ofNat (Nat.mod n 4294967296) = UInt32.ofNat n := by
  apply UInt32.toNat_inj.mp
  show n % 4294967296 % 2 ^ 32 = n % 2 ^ 32
  omega
theorem q_n64 {x : Nat} (hx : x < 18446744073709551616) (h : Nat.ble (Nat.land x 9223372036854775807) 9218868437227405312 = true) : vf_n64 (UInt64.ofNat x) := by
  have h := Nat.le_of_ble_eq_true h
  show UInt64.ofNat x &&& 0x7fffffffffffffff ≤ 0x7ff0000000000000
  rw [UInt64.le_iff_toNat_le, UInt64.toNat_and, q_u64 hx]
  exact h
theorem q_n32 {x : Nat} (hx : x < 4294967296) (h : Nat.ble (Nat.land x 2147483647) 2139095040 = true) : vf_n32 (UInt32.ofNat x) := by
  have h := Nat.le_of_ble_eq_true h
  show UInt32.ofNat x &&& 0x7fffffff ≤ 0x7f800000
  rw [UInt32.le_iff_toNat_le, UInt32.toNat_and, q_u32 hx]
  exact h
theorem q_sgn {a : Nat} (ha : a < 4294967296) : (nI a).toInt = Bool.rec (motive := fun _ => Int) (Int.sub (Int.ofNat a) 4294967296) (Int.ofNat a) (Nat.ble a 2147483647) := by
  rw [q_toInt ha]
  cases hb : Nat.ble a 2147483647 with
  | true =>
    have := Nat.le_of_ble_eq_true hb
    rw [if_pos (by omega)]
    rfl
  | false =>
    have : ¬ a ≤ 2147483647 := fun q => by rw [Nat.ble_eq_true_of_le q] at hb; cases hb
    rw [if_neg (by omega)]
    rfl
section MORE
variable {G : Gm} {nL : Nat} {Q : Rs → State → Prop} {nx : Kt} {jp : Nat → Kt} {cal : Cal} {cc : ByteArray} {own : String} {pc : Nat}
theorem s_lcmp (w : Wk G cc nL own) (hd : decode cc pc = .ok (.lcmp, 1)) (k : Snd G nL Q nx (pc + 1)) : Snd G nL Q (o_lcmp nx jp cal) pc := by
  intro lv st h z cn sn r hr
  obtain ⟨b, t, rfl, h1⟩ := e_pV_inv (show e_pV st (fun b s => e_vL b fun b => e_pV s fun a s => e_vL a fun a => e_if (Nat.beq a b) (nx lv (.inl 0 :: s) h z cn sn) none) = some r from hr)
  obtain ⟨b, rfl, h2⟩ := e_vL_inv h1
  obtain ⟨a0, t, rfl, h3⟩ := e_pV_inv h2
  obtain ⟨a, rfl, h4⟩ := e_vL_inv h3
  obtain ⟨hb, h5⟩ := e_if_t h4
  have hb := Nat.eq_of_beq_eq_true hb
  subst hb
  obtain ⟨hm, hk⟩ := k _ _ _ _ _ _ _ h5
  refine ⟨hm, fun hc hs ρ ws ls Vs H locs S => ?_⟩
  obtain ⟨V, T, rfl, hV, hT⟩ := vl_cons S.2.1
  obtain ⟨-, rfl⟩ := (show a < 18446744073709551616 ∧ V = .long (lN a) from hV)
  obtain ⟨V2, T2, rfl, hV2, hT2⟩ := vl_cons hT
  obtain ⟨-, rfl⟩ := (show a < 18446744073709551616 ∧ V2 = .long (lN a) from hV2)
  refine W.lcmp w.1 w.2.1 hd ?_
  have e : lg_cmp (lN a) (lN a) = nI 0 := by simp [lg_cmp]; rfl
  rw [e]
  exact hk hc hs ρ ws ls _ H locs ⟨S.1, ⟨⟨by decide, rfl⟩, hT2⟩, S.2.2⟩
theorem s_i2d (w : Wk G cc nL own) (hd : decode cc pc = .ok (.i2d, 1)) (k : Snd G nL Q nx (pc + 1)) : Snd G nL Q (o_i2d nx jp cal) pc := by
  intro lv st h z cn sn r hr
  obtain ⟨a, t, rfl, h1⟩ := e_pI_inv (show e_pI st (fun a s => e_force (Nat.mod (FP.Core.fromInt FP.Core.b64 (Bool.rec (motive := fun _ => Int) (Int.sub (Int.ofNat a) 4294967296) (Int.ofNat a) (Nat.ble a 2147483647))) 18446744073709551616) fun x => nx lv (.inr (.inr (.inr (.inl x))) :: s) h z cn sn) = some r from hr)
  rw [e_force_eq] at h1
  obtain ⟨hm, hk⟩ := k _ _ _ _ _ _ _ h1
  refine ⟨hm, fun hc hs ρ ws ls Vs H locs S => ?_⟩
  obtain ⟨T, rfl, ha, hT⟩ := vl_int S.2.1
  refine lv_i2d w.1 w.2.1 hd ?_
  rw [show FP.i2d (nI a) = UInt64.ofNat (FP.Core.fromInt FP.Core.b64 (nI a).toInt) from rfl, q_sgn ha, ← q_m64]
  exact hk hc hs ρ ws ls _ H locs ⟨S.1, ⟨⟨Nat.mod_lt _ (by decide), rfl⟩, hT⟩, S.2.2⟩
theorem s_i2f (w : Wk G cc nL own) (hd : decode cc pc = .ok (.i2f, 1)) (k : Snd G nL Q nx (pc + 1)) : Snd G nL Q (o_i2f nx jp cal) pc := by
  intro lv st h z cn sn r hr
  obtain ⟨a, t, rfl, h1⟩ := e_pI_inv (show e_pI st (fun a s => e_force (Nat.mod (FP.Core.fromInt FP.Core.b32 (Bool.rec (motive := fun _ => Int) (Int.sub (Int.ofNat a) 4294967296) (Int.ofNat a) (Nat.ble a 2147483647))) 4294967296) fun x => nx lv (.inr (.inr (.inr (.inr (.inl x)))) :: s) h z cn sn) = some r from hr)
  rw [e_force_eq] at h1
  obtain ⟨hm, hk⟩ := k _ _ _ _ _ _ _ h1
  refine ⟨hm, fun hc hs ρ ws ls Vs H locs S => ?_⟩
  obtain ⟨T, rfl, ha, hT⟩ := vl_int S.2.1
  refine lv_i2f w.1 w.2.1 hd ?_
  rw [show FP.i2f (nI a) = UInt32.ofNat (FP.Core.fromInt FP.Core.b32 (nI a).toInt) from rfl, q_sgn ha, ← q_m32]
  exact hk hc hs ρ ws ls _ H locs ⟨S.1, ⟨⟨Nat.mod_lt _ (by decide), rfl⟩, hT⟩, S.2.2⟩
theorem s_dbin {f : Nat → Nat → Nat} {g : UInt64 → UInt64 → UInt64} (row : ∀ (H : Heap) (locs : List Loc) (cn sn : Nat) (Q : State → Prop) (ls : Array Slot) (Vs : List Value) (x y : UInt64), vf_n64 (g x y) → gW G H locs cn sn Q (F0 (gm G) (pc + 1) ls (.double (g x y) :: Vs)) → gW G H locs cn sn Q (F0 (gm G) pc ls (.double y :: .double x :: Vs))) (hf : ∀ x y : UInt64, g x y = UInt64.ofNat (f x.toNat y.toNat)) (k : Snd G nL Q nx (pc + 1)) : Snd G nL Q (o_dbin f nx jp cal) pc := by
  intro lv st h z cn sn r hr
  obtain ⟨b, t, rfl, h1⟩ := e_pV_inv (show e_pV st (fun b s => e_vD b fun b => e_pV s fun a s => e_vD a fun a => e_force (Nat.mod (f a b) 18446744073709551616) fun x => e_if (Nat.ble (Nat.land x 9223372036854775807) 9218868437227405312) (nx lv (.inr (.inr (.inr (.inl x))) :: s) h z cn sn) none) = some r from hr)
  obtain ⟨b, rfl, h2⟩ := e_vD_inv h1
  obtain ⟨a0, t, rfl, h3⟩ := e_pV_inv h2
  obtain ⟨a, rfl, h4⟩ := e_vD_inv h3
  rw [e_force_eq] at h4
  obtain ⟨hn, h5⟩ := e_if_t h4
  obtain ⟨hm, hk⟩ := k _ _ _ _ _ _ _ h5
  refine ⟨hm, fun hc hs ρ ws ls Vs H locs S => ?_⟩
  obtain ⟨V, T, rfl, hV, hT⟩ := vl_cons S.2.1
  obtain ⟨hb, rfl⟩ := (show b < 18446744073709551616 ∧ V = .double (UInt64.ofNat b) from hV)
  obtain ⟨V2, T2, rfl, hV2, hT2⟩ := vl_cons hT
  obtain ⟨ha, rfl⟩ := (show a < 18446744073709551616 ∧ V2 = .double (UInt64.ofNat a) from hV2)
  have hx : Nat.mod (f a b) 18446744073709551616 < 18446744073709551616 := Nat.mod_lt _ (by decide)
  have e : g (UInt64.ofNat a) (UInt64.ofNat b) = UInt64.ofNat (Nat.mod (f a b) 18446744073709551616) := by
    rw [hf, q_u64 ha, q_u64 hb, q_m64]
  refine row _ _ _ _ _ _ _ _ _ (by rw [e]; exact q_n64 hx hn) ?_
  rw [e]
  exact hk hc hs ρ ws ls _ H locs ⟨S.1, ⟨⟨hx, rfl⟩, hT2⟩, S.2.2⟩
theorem s_dadd (w : Wk G cc nL own) (hd : decode cc pc = .ok (.dadd, 1)) (k : Snd G nL Q nx (pc + 1)) : Snd G nL Q (o_dbin (FP.Core.add FP.Core.b64) nx jp cal) pc := s_dbin (g := FP.dadd) (fun _ _ _ _ _ _ _ _ _ => lv_dadd w.1 w.2.1 hd) (fun _ _ => rfl) k
theorem s_dsub (w : Wk G cc nL own) (hd : decode cc pc = .ok (.dsub, 1)) (k : Snd G nL Q nx (pc + 1)) : Snd G nL Q (o_dbin (FP.Core.sub FP.Core.b64) nx jp cal) pc := s_dbin (g := FP.dsub) (fun _ _ _ _ _ _ _ _ _ => lv_dsub w.1 w.2.1 hd) (fun _ _ => rfl) k
theorem s_dmul (w : Wk G cc nL own) (hd : decode cc pc = .ok (.dmul, 1)) (k : Snd G nL Q nx (pc + 1)) : Snd G nL Q (o_dbin (FP.Core.mul FP.Core.b64) nx jp cal) pc := s_dbin (g := FP.dmul) (fun _ _ _ _ _ _ _ _ _ => lv_dmul w.1 w.2.1 hd) (fun _ _ => rfl) k
theorem s_ddiv (w : Wk G cc nL own) (hd : decode cc pc = .ok (.ddiv, 1)) (k : Snd G nL Q nx (pc + 1)) : Snd G nL Q (o_dbin (FP.Core.div FP.Core.b64) nx jp cal) pc := s_dbin (g := FP.ddiv) (fun _ _ _ _ _ _ _ _ _ => lv_ddiv w.1 w.2.1 hd) (fun _ _ => rfl) k
theorem s_fdiv (w : Wk G cc nL own) (hd : decode cc pc = .ok (.fdiv, 1)) (k : Snd G nL Q nx (pc + 1)) : Snd G nL Q (o_fdiv nx jp cal) pc := by
  intro lv st h z cn sn r hr
  obtain ⟨b, t, rfl, h1⟩ := e_pV_inv (show e_pV st (fun b s => e_vF b fun b => e_pV s fun a s => e_vF a fun a => e_force (Nat.mod (FP.Core.div FP.Core.b32 a b) 4294967296) fun x => e_if (Nat.ble (Nat.land x 2147483647) 2139095040) (nx lv (.inr (.inr (.inr (.inr (.inl x)))) :: s) h z cn sn) none) = some r from hr)
  obtain ⟨b, rfl, h2⟩ := e_vF_inv h1
  obtain ⟨a0, t, rfl, h3⟩ := e_pV_inv h2
  obtain ⟨a, rfl, h4⟩ := e_vF_inv h3
  rw [e_force_eq] at h4
  obtain ⟨hn, h5⟩ := e_if_t h4
  obtain ⟨hm, hk⟩ := k _ _ _ _ _ _ _ h5
  refine ⟨hm, fun hc hs ρ ws ls Vs H locs S => ?_⟩
  obtain ⟨V, T, rfl, hV, hT⟩ := vl_cons S.2.1
  obtain ⟨hb, rfl⟩ := (show b < 4294967296 ∧ V = .float (UInt32.ofNat b) from hV)
  obtain ⟨V2, T2, rfl, hV2, hT2⟩ := vl_cons hT
  obtain ⟨ha, rfl⟩ := (show a < 4294967296 ∧ V2 = .float (UInt32.ofNat a) from hV2)
  have hx : Nat.mod (FP.Core.div FP.Core.b32 a b) 4294967296 < 4294967296 := Nat.mod_lt _ (by decide)
  have e : FP.fdiv (UInt32.ofNat a) (UInt32.ofNat b) = UInt32.ofNat (Nat.mod (FP.Core.div FP.Core.b32 a b) 4294967296) := by
    rw [show FP.fdiv (UInt32.ofNat a) (UInt32.ofNat b) = UInt32.ofNat (FP.Core.div FP.Core.b32 (UInt32.ofNat a).toNat (UInt32.ofNat b).toNat) from rfl, q_u32 ha, q_u32 hb, q_m32]
  refine lv_fdiv w.1 w.2.1 hd (by rw [e]; exact q_n32 hx hn) ?_
  rw [e]
  exact hk hc hs ρ ws ls _ H locs ⟨S.1, ⟨⟨hx, rfl⟩, hT2⟩, S.2.2⟩
theorem q_ord {o : Option Ordering} (h : Option.rec (motive := fun _ => Bool) false (fun o => Ordering.rec (motive := fun _ => Bool) false true false o) o = true) : o = some .eq := by
  rcases o with _ | o
  · cases h
  · cases o
    · cases h
    · rfl
    · cases h
theorem s_dcmp {op : CmpOp} (w : Wk G cc nL own) (hd : decode cc pc = .ok (.dcmp op, 1)) (k : Snd G nL Q nx (pc + 1)) : Snd G nL Q (o_dcmp nx jp cal) pc := by
  intro lv st h z cn sn r hr
  obtain ⟨b, t, rfl, h1⟩ := e_pV_inv (show e_pV st (fun b s => e_vD b fun b => e_pV s fun a s => e_vD a fun a => e_if (Option.rec (motive := fun _ => Bool) false (fun o => Ordering.rec (motive := fun _ => Bool) false true false o) (FP.Core.cmp FP.Core.b64 a b)) (nx lv (.inl 0 :: s) h z cn sn) none) = some r from hr)
  obtain ⟨b, rfl, h2⟩ := e_vD_inv h1
  obtain ⟨a0, t, rfl, h3⟩ := e_pV_inv h2
  obtain ⟨a, rfl, h4⟩ := e_vD_inv h3
  obtain ⟨hn, h5⟩ := e_if_t h4
  have hn := q_ord hn
  obtain ⟨hm, hk⟩ := k _ _ _ _ _ _ _ h5
  refine ⟨hm, fun hc hs ρ ws ls Vs H locs S => ?_⟩
  obtain ⟨V, T, rfl, hV, hT⟩ := vl_cons S.2.1
  obtain ⟨hb, rfl⟩ := (show b < 18446744073709551616 ∧ V = .double (UInt64.ofNat b) from hV)
  obtain ⟨V2, T2, rfl, hV2, hT2⟩ := vl_cons hT
  obtain ⟨ha, rfl⟩ := (show a < 18446744073709551616 ∧ V2 = .double (UInt64.ofNat a) from hV2)
  refine lv_dcmp w.1 w.2.1 hd ?_
  rw [show FP.dcmp (UInt64.ofNat a) (UInt64.ofNat b) = FP.Core.cmp FP.Core.b64 (UInt64.ofNat a).toNat (UInt64.ofNat b).toNat from rfl, q_u64 ha, q_u64 hb, hn]
  exact hk hc hs ρ ws ls _ H locs ⟨S.1, ⟨⟨by decide, by cases op <;> rfl⟩, hT2⟩, S.2.2⟩
theorem s_fcmp {op : CmpOp} (w : Wk G cc nL own) (hd : decode cc pc = .ok (.fcmp op, 1)) (k : Snd G nL Q nx (pc + 1)) : Snd G nL Q (o_fcmp nx jp cal) pc := by
  intro lv st h z cn sn r hr
  obtain ⟨b, t, rfl, h1⟩ := e_pV_inv (show e_pV st (fun b s => e_vF b fun b => e_pV s fun a s => e_vF a fun a => e_if (Option.rec (motive := fun _ => Bool) false (fun o => Ordering.rec (motive := fun _ => Bool) false true false o) (FP.Core.cmp FP.Core.b32 a b)) (nx lv (.inl 0 :: s) h z cn sn) none) = some r from hr)
  obtain ⟨b, rfl, h2⟩ := e_vF_inv h1
  obtain ⟨a0, t, rfl, h3⟩ := e_pV_inv h2
  obtain ⟨a, rfl, h4⟩ := e_vF_inv h3
  obtain ⟨hn, h5⟩ := e_if_t h4
  have hn := q_ord hn
  obtain ⟨hm, hk⟩ := k _ _ _ _ _ _ _ h5
  refine ⟨hm, fun hc hs ρ ws ls Vs H locs S => ?_⟩
  obtain ⟨V, T, rfl, hV, hT⟩ := vl_cons S.2.1
  obtain ⟨hb, rfl⟩ := (show b < 4294967296 ∧ V = .float (UInt32.ofNat b) from hV)
  obtain ⟨V2, T2, rfl, hV2, hT2⟩ := vl_cons hT
  obtain ⟨ha, rfl⟩ := (show a < 4294967296 ∧ V2 = .float (UInt32.ofNat a) from hV2)
  refine lv_fcmp w.1 w.2.1 hd ?_
  rw [show FP.fcmp (UInt32.ofNat a) (UInt32.ofNat b) = FP.Core.cmp FP.Core.b32 (UInt32.ofNat a).toNat (UInt32.ofNat b).toNat from rfl, q_u32 ha, q_u32 hb, hn]
  exact hk hc hs ρ ws ls _ H locs ⟨S.1, ⟨⟨by decide, by cases op <;> rfl⟩, hT2⟩, S.2.2⟩
/-! a long or double into a variable -/
theorem s_lst {j i len : Nat} (e : j + 1 = i) (row : ∀ (H : Heap) (locs : List Loc) (cn sn : Nat) (Q : State → Prop) (ls : Array Slot) (Vs : List Value) (x : Int64) (q : List (Nat × Value)), lv_has ls nL q → i + 1 < nL → (∀ ls' : Array Slot, lv_has ls' nL ((i, Value.long x) :: q.filter (fun q => !(q.1 == i) && (!(q.1 == i + 1) && !(q.1 + 1 == i && q.2.category == 2)))) → gW G H locs cn sn Q (F0 (gm G) (pc + len) ls' Vs)) → gW G H locs cn sn Q (F0 (gm G) pc ls (.long x :: Vs))) (k : Snd G nL Q nx (pc + len)) : Snd G nL Q (o_wst false j nx jp cal) pc := by
  subst e
  intro lv st h z cn sn r hr
  obtain ⟨x, t, rfl, h1⟩ := e_pV_inv (show e_pV st (fun x s => e_if (Bool.rec (motive := fun _ => Bool) true false (e_one x)) (e_vL x fun _ => e_nth lv j fun v => e_if (e_one v) (e_upd lv (Nat.succ j) x fun l => e_upd l (Nat.succ (Nat.succ j)) (.inr (.inr (.inr (.inr (.inr 2))))) fun l => nx l s h z cn sn) none) none) = some r from hr)
  obtain ⟨-, h1⟩ := e_if_t h1
  obtain ⟨x, rfl, h1⟩ := e_vL_inv h1
  obtain ⟨v, h2, h3⟩ := e_nth_inv h1
  obtain ⟨h4, h5⟩ := e_if_t h3
  obtain ⟨h6, h7⟩ := e_upd_inv h5
  obtain ⟨h8, h9⟩ := e_upd_inv h7
  obtain ⟨hm, hk⟩ := k _ _ _ _ _ _ _ h9
  refine ⟨hm, fun hc hs ρ ws ls Vs H locs S => ?_⟩
  obtain ⟨V, T, rfl, hV, hT⟩ := vl_cons S.2.1
  obtain ⟨hx, rfl⟩ := (show x < 18446744073709551616 ∧ V = .long (lN x) from hV)
  obtain ⟨hlen, q, hq, hv⟩ := S.1
  rw [List.length_set] at h8
  refine row _ _ _ _ _ _ _ _ q hq (by rw [← hlen]; exact h8) (fun ls' hl => hk hc hs ρ ws ls' T H locs ⟨?_, hT, S.2.2⟩)
  exact LR_st2 hlen hv ⟨hx, rfl⟩ (q_ahead h2 h4 rfl) hl
theorem s_lst_n {j i : Nat} {f : Fin 4} (w : Wk G cc nL own) (hd : decode cc pc = .ok (.lstore_n f, 1)) (hf : (f : Nat) = i) (e : j + 1 = i) (k : Snd G nL Q nx (pc + 1)) : Snd G nL Q (o_wst false j nx jp cal) pc := s_lst e (fun _ _ _ _ _ _ _ _ _ h hn kk => lv_lstore_n w.1 w.2.1 hd hf h hn rfl kk) k
theorem s_dst {j i len : Nat} (e : j + 1 = i) (row : ∀ (H : Heap) (locs : List Loc) (cn sn : Nat) (Q : State → Prop) (ls : Array Slot) (Vs : List Value) (x : UInt64) (q : List (Nat × Value)), lv_has ls nL q → i + 1 < nL → (∀ ls' : Array Slot, lv_has ls' nL ((i, Value.double x) :: q.filter (fun q => !(q.1 == i) && (!(q.1 == i + 1) && !(q.1 + 1 == i && q.2.category == 2)))) → gW G H locs cn sn Q (F0 (gm G) (pc + len) ls' Vs)) → gW G H locs cn sn Q (F0 (gm G) pc ls (.double x :: Vs))) (k : Snd G nL Q nx (pc + len)) : Snd G nL Q (o_wst true j nx jp cal) pc := by
  subst e
  intro lv st h z cn sn r hr
  obtain ⟨x, t, rfl, h1⟩ := e_pV_inv (show e_pV st (fun x s => e_if (Bool.rec (motive := fun _ => Bool) true false (e_one x)) (e_vD x fun _ => e_nth lv j fun v => e_if (e_one v) (e_upd lv (Nat.succ j) x fun l => e_upd l (Nat.succ (Nat.succ j)) (.inr (.inr (.inr (.inr (.inr 2))))) fun l => nx l s h z cn sn) none) none) = some r from hr)
  obtain ⟨-, h1⟩ := e_if_t h1
  obtain ⟨x, rfl, h1⟩ := e_vD_inv h1
  obtain ⟨v, h2, h3⟩ := e_nth_inv h1
  obtain ⟨h4, h5⟩ := e_if_t h3
  obtain ⟨h6, h7⟩ := e_upd_inv h5
  obtain ⟨h8, h9⟩ := e_upd_inv h7
  obtain ⟨hm, hk⟩ := k _ _ _ _ _ _ _ h9
  refine ⟨hm, fun hc hs ρ ws ls Vs H locs S => ?_⟩
  obtain ⟨V, T, rfl, hV, hT⟩ := vl_cons S.2.1
  obtain ⟨hx, rfl⟩ := (show x < 18446744073709551616 ∧ V = .double (UInt64.ofNat x) from hV)
  obtain ⟨hlen, q, hq, hv⟩ := S.1
  rw [List.length_set] at h8
  refine row _ _ _ _ _ _ _ _ q hq (by rw [← hlen]; exact h8) (fun ls' hl => hk hc hs ρ ws ls' T H locs ⟨?_, hT, S.2.2⟩)
  exact LR_st2 hlen hv ⟨hx, rfl⟩ (q_ahead h2 h4 rfl) hl
theorem s_dst_n {j i : Nat} {f : Fin 4} (w : Wk G cc nL own) (hd : decode cc pc = .ok (.dstore_n f, 1)) (hf : (f : Nat) = i) (e : j + 1 = i) (k : Snd G nL Q nx (pc + 1)) : Snd G nL Q (o_wst true j nx jp cal) pc := s_dst e (fun _ _ _ _ _ _ _ _ _ h hn kk => lv_dstore_n w.1 w.2.1 hd hf h hn rfl kk) k
theorem s_dst_w {j i : Nat} (w : Wk G cc nL own) (hd : decode cc pc = .ok (.dstore i, 2)) (e : j + 1 = i) (k : Snd G nL Q nx (pc + 2)) : Snd G nL Q (o_wst true j nx jp cal) pc := s_dst e (fun _ _ _ _ _ _ _ _ _ h hn kk => lv_dstore w.1 w.2.1 hd h hn rfl kk) k
/-! a switch over a table -/
theorem s_sw {dflt lo9 hi9 : Int} {offs : Array Int} {len lo : Nat} {ts : List Nat} {P : Nat → Nat} (w : Wk G cc nL own) (hd : decode cc pc = .ok (.tableswitch dflt lo9 hi9 offs, len)) (e1 : lo9 = (lo : Int)) (e2 : hi9 = ((lo + ts.length : Nat) : Int) - 1) (e3 : lo + ts.length ≤ 1000) (e4 : ∀ j, j < ts.length → ∃ (t : Nat) (off : Int), ts[j]? = some t ∧ offs[j]? = some off ∧ (pc : Int) + off = ((P t : Nat) : Int)) (kt : ∀ t, Snd G nL Q (jp t) (P t)) : Snd G nL Q (o_sw lo ts nx jp cal) pc := by
  intro lv st h z cn sn r hr
  obtain ⟨a, s, rfl, h1⟩ := e_pI_inv (show e_pI st (fun a s => e_if (Nat.ble lo a) (e_op (e_at ts (Nat.sub a lo)) fun t => jp t lv s h z cn sn) none) = some r from hr)
  obtain ⟨hb, h1⟩ := e_if_t h1
  have hb := Nat.le_of_ble_eq_true hb
  obtain ⟨t, h2, h3⟩ := e_op_inv h1
  rw [e_at_eq] at h2
  have h2 : ts[a - lo]? = some t := h2
  have hj := (List.getElem?_eq_some_iff.mp h2).1
  obtain ⟨t2, off, h4, h5, h6⟩ := e4 (a - lo) hj
  cases Option.some.inj (h4.symm.trans h2)
  obtain ⟨hm, hk⟩ := kt t _ _ _ _ _ _ _ h3
  refine ⟨hm, fun hc hs ρ ws ls Vs H locs S => ?_⟩
  obtain ⟨T, rfl, ha, hT⟩ := vl_int S.2.1
  have e5 : (nI a).toInt = (a : Int) := nI_toInt (by omega)
  refine lv_tableIn w.1 w.2.1 hd (by rw [e5]; omega) (by rw [e5]; omega) (off := off) (tgt := P t) ?_ h6 (hk hc hs ρ ws ls T H locs ⟨S.1, hT, S.2.2⟩)
  rw [e5, e1, show ((a : Int) - (lo : Int)).toNat = a - lo by omega]
  exact h5
end MORE
end
section
/-! WHAT A METHOD'S RUN SAYS OF ITS END -/
def rvo (X : Nat × (Nat × (Nat → Int32))) (ρ : List Nat) (o : Ot) (V : Option Value) : Prop := match o, V with
  | .inl (.inl none), none => True
  | .inl (.inl (some v)), some V => rv X ρ v V
  | _, _ => False
def Qc (Y : Yt) (r : Rs) : Array Value → State → Outcome → State → Prop := fun _ st oc t => ∃ (V : Option Value) (ρ : List Nat) (ws : va_W), oc = .returned V ∧ rvo Y.1 ρ r.1 V ∧ (∃ t', ρ = Y.2.2.2.2.2.2 ++ t') ∧ HR Y.1 Y.2.2.1 Y.2.2.2.1 r.2.1 r.2.2.1 ρ ws ∧ va_P Y.2.1 ev_cl ws t.heap ∧ va_D Y.2.2.2.2.2.1 ws ∧ va_F Y.2.2.2.2.2.1 st t
def Xc (Y : Yt) (r : Rs) : String → State → State → Prop := fun E st t => ∃ (e : Nat) (ρ : List Nat) (ws : va_W), r.1 = .inl (.inr e) ∧ ev_ex[e]? = some E ∧ (∃ t', ρ = Y.2.2.2.2.2.2 ++ t') ∧ HR Y.1 Y.2.2.1 Y.2.2.2.1 r.2.1 r.2.2.1 ρ ws ∧ va_P Y.2.1 ev_cl ws t.heap ∧ va_D Y.2.2.2.2.2.1 ws ∧ va_F Y.2.2.2.2.2.1 st t
def Qm (G : Gm) (r : Rs) : State → Prop := match r.1 with
  | .inl _ => vx_MQ (gb G) (Qc G.2.2 r) (Xc G.2.2 r) (ga G) (gs G) r.2.2.2.1 r.2.2.2.2 (gA G)
  | .inr _ => fun _ => True
theorem q_end {G : Gm} {nL : Nat} {lv st : List AV} {h : AH} {z cn sn : Nat} {ρ : List Nat} {ws : va_W} {ls : Array Slot} {Vs : List Value} {H : Heap} {locs : List Loc} {o : Ot} {V : Option Value} (S : St G nL lv st h z ρ ws ls Vs H locs) (hV : rvo (gX G) ρ o V) (a : Array Value) : ∀ t : State, t.heap = H → (gs G).WarmedH t.vm → Qc G.2.2 (o, h, z, cn, sn) a (gs G) (.returned V) t :=
  fun t ht _ => ⟨V, ρ, ws, rfl, hV, S.2.2.2.1, S.2.2.1, by rw [ht]; exact S.2.2.2.2.1, S.2.2.2.2.2.1, S.2.2.2.2.2.2.F ht⟩
section ENDS
variable {G : Gm} {nL : Nat} {Q : Rs → State → Prop} {nx : Kt} {jp : Nat → Kt} {cal : Cal} {cc : ByteArray} {own : String} {pc : Nat}
theorem s_iret (w : Wk G cc nL own) (hr9 : (gk G).sig.returnType = some .int) (hd : decode cc pc = .ok (.ireturn, 1)) : Snd G nL (Qm G) (o_iret nx jp cal) pc := by
  intro lv st h z cn sn r hr
  obtain ⟨x, t, rfl, h1⟩ := e_pI_inv (show e_pI st (fun x t => e_nil t (some (.inl (.inl (some (.inl x))), h, z, cn, sn))) = some r from hr)
  obtain ⟨rfl, h2⟩ := e_nil_inv h1
  cases h2
  refine ⟨⟨Nat.le_refl _, Nat.le_refl _⟩, fun _ _ ρ ws ls Vs H locs S => ?_⟩
  obtain ⟨T, rfl, hx, hT⟩ := vl_int S.2.1
  cases vl_nil hT
  exact vx_ret (W.iret (Qc := Qc G.2.2 (.inl (.inl (some (.inl x))), h, z, cn, sn)) w.1 w.2.1 hr9 (q_end (o := .inl (.inl (some (.inl x)))) S (V := some (.int (nI x))) ⟨hx, rfl⟩ _) S.2.2.2.2.2.2.2.2 hd w.lk)
theorem s_zret {m : Nat} {ty : FieldType} (w : Wk G cc nL own) (hr9 : (gk G).sig.returnType = some ty) (hn : ∀ x, x ≤ m → narrow ty (.int (nI x)) = .int (nI x)) (hd : decode cc pc = .ok (.ireturn, 1)) : Snd G nL (Qm G) (o_bret m nx jp cal) pc := by
  intro lv st h z cn sn r hr
  obtain ⟨x, t, rfl, h1⟩ := e_pI_inv (show e_pI st (fun x t => e_if (Nat.ble x m) (e_nil t (some (.inl (.inl (some (.inl x))), h, z, cn, sn))) none) = some r from hr)
  obtain ⟨hb, h1⟩ := e_if_t h1
  have hb := Nat.le_of_ble_eq_true hb
  obtain ⟨rfl, h2⟩ := e_nil_inv h1
  cases h2
  refine ⟨⟨Nat.le_refl _, Nat.le_refl _⟩, fun _ _ ρ ws ls Vs H locs S => ?_⟩
  obtain ⟨T, rfl, hx, hT⟩ := vl_int S.2.1
  cases vl_nil hT
  exact vx_ret (W.zret (Qc := Qc G.2.2 (.inl (.inl (some (.inl x))), h, z, cn, sn)) w.1 w.2.1 hr9 (hn x hb) (q_end (o := .inl (.inl (some (.inl x)))) S (V := some (.int (nI x))) ⟨hx, rfl⟩ _) S.2.2.2.2.2.2.2.2 hd w.lk)
theorem q_nz : ∀ x, x ≤ 1 → narrow .boolean (.int (nI x)) = .int (nI x) := by
  intro x hx
  rcases (show x = 0 ∨ x = 1 by omega) with rfl | rfl
  · rfl
  · rfl
theorem q_nch : ∀ x, x ≤ 65535 → narrow .char (.int (nI x)) = .int (nI x) := fun x hx => (pk_charN (by omega)).1
theorem s_aret {rt : FieldType} (w : Wk G cc nL own) (hr9 : (gk G).sig.returnType = some rt) (hrt : (∃ n, rt = .object n) ∨ ∃ t, rt = .array t) (hd : decode cc pc = .ok (.areturn, 1)) : Snd G nL (Qm G) (o_aret nx jp cal) pc := by
  intro lv st h z cn sn r hr
  obtain ⟨x, t, rfl, h1⟩ := e_pR_inv (show e_pR st (fun x t => e_nil t (some (.inl (.inl (some (.inr (.inl (Nat.succ x))))), h, z, cn, sn))) = some r from hr)
  obtain ⟨rfl, h2⟩ := e_nil_inv h1
  cases h2
  refine ⟨⟨Nat.le_refl _, Nat.le_refl _⟩, fun _ _ ρ ws ls Vs H locs S => ?_⟩
  obtain ⟨a, T, rfl, ha, hT⟩ := vl_ref S.2.1
  cases vl_nil hT
  exact vx_ret (W.aret (Qc := Qc G.2.2 (.inl (.inl (some (.inr (.inl (x + 1))))), h, z, cn, sn)) w.1 w.2.1 hr9 hrt (Or.inr ⟨a, rfl⟩) (q_end (o := .inl (.inl (some (.inr (.inl (x + 1)))))) S (V := some (.ref a)) ⟨a, ha, rfl⟩ _) S.2.2.2.2.2.2.2.2 hd w.lk)
theorem s_lret (w : Wk G cc nL own) (hr9 : (gk G).sig.returnType = some .long) (hd : decode cc pc = .ok (.lreturn, 1)) : Snd G nL (Qm G) (o_lret nx jp cal) pc := by
  intro lv st h z cn sn r hr
  obtain ⟨x, t, rfl, h1⟩ := e_pV_inv (show e_pV st (fun v t => e_vL v fun _ => e_nil t (some (.inl (.inl (some v)), h, z, cn, sn))) = some r from hr)
  obtain ⟨x, rfl, h3⟩ := e_vL_inv h1
  obtain ⟨rfl, h2⟩ := e_nil_inv h3
  cases h2
  refine ⟨⟨Nat.le_refl _, Nat.le_refl _⟩, fun _ _ ρ ws ls Vs H locs S => ?_⟩
  obtain ⟨V, T, rfl, hV, hT⟩ := vl_cons S.2.1
  obtain ⟨hx, rfl⟩ := (show x < 18446744073709551616 ∧ V = .long (lN x) from hV)
  cases vl_nil hT
  exact vx_ret (W.lret (Qc := Qc G.2.2 (.inl (.inl (some (.inr (.inr (.inl x))))), h, z, cn, sn)) w.1 w.2.1 hr9 (q_end (o := .inl (.inl (some (.inr (.inr (.inl x)))))) S (V := some (.long (lN x))) ⟨hx, rfl⟩ _) S.2.2.2.2.2.2.2.2 hd w.lk)
theorem s_dret (w : Wk G cc nL own) (hr9 : (gk G).sig.returnType = some .double) (hd : decode cc pc = .ok (.dreturn, 1)) : Snd G nL (Qm G) (o_dret nx jp cal) pc := by
  intro lv st h z cn sn r hr
  obtain ⟨x, t, rfl, h1⟩ := e_pV_inv (show e_pV st (fun v t => e_vD v fun _ => e_nil t (some (.inl (.inl (some v)), h, z, cn, sn))) = some r from hr)
  obtain ⟨x, rfl, h3⟩ := e_vD_inv h1
  obtain ⟨rfl, h2⟩ := e_nil_inv h3
  cases h2
  refine ⟨⟨Nat.le_refl _, Nat.le_refl _⟩, fun _ _ ρ ws ls Vs H locs S => ?_⟩
  obtain ⟨V, T, rfl, hV, hT⟩ := vl_cons S.2.1
  obtain ⟨hx, rfl⟩ := (show x < 18446744073709551616 ∧ V = .double (UInt64.ofNat x) from hV)
  cases vl_nil hT
  exact vx_ret (W.dret (Qc := Qc G.2.2 (.inl (.inl (some (.inr (.inr (.inr (.inl x)))))), h, z, cn, sn)) w.1 w.2.1 hr9 (q_end (o := .inl (.inl (some (.inr (.inr (.inr (.inl x))))))) S (V := some (.double (UInt64.ofNat x))) ⟨hx, rfl⟩ _) S.2.2.2.2.2.2.2.2 hd w.lk)
theorem s_fret (w : Wk G cc nL own) (hr9 : (gk G).sig.returnType = some .float) (hd : decode cc pc = .ok (.freturn, 1)) : Snd G nL (Qm G) (o_fret nx jp cal) pc := by
  intro lv st h z cn sn r hr
  obtain ⟨x, t, rfl, h1⟩ := e_pV_inv (show e_pV st (fun v t => e_vF v fun _ => e_nil t (some (.inl (.inl (some v)), h, z, cn, sn))) = some r from hr)
  obtain ⟨x, rfl, h3⟩ := e_vF_inv h1
  obtain ⟨rfl, h2⟩ := e_nil_inv h3
  cases h2
  refine ⟨⟨Nat.le_refl _, Nat.le_refl _⟩, fun _ _ ρ ws ls Vs H locs S => ?_⟩
  obtain ⟨V, T, rfl, hV, hT⟩ := vl_cons S.2.1
  obtain ⟨hx, rfl⟩ := (show x < 4294967296 ∧ V = .float (UInt32.ofNat x) from hV)
  cases vl_nil hT
  exact vx_ret (W.fret (Qc := Qc G.2.2 (.inl (.inl (some (.inr (.inr (.inr (.inr (.inl x))))))), h, z, cn, sn)) w.1 w.2.1 hr9 (q_end (o := .inl (.inl (some (.inr (.inr (.inr (.inr (.inl x)))))))) S (V := some (.float (UInt32.ofNat x))) ⟨hx, rfl⟩ _) S.2.2.2.2.2.2.2.2 hd w.lk)
theorem s_ret (w : Wk G cc nL own) (hr9 : (gk G).sig.returnType = none) (hd : decode cc pc = .ok (.return_, 1)) : Snd G nL (Qm G) (o_ret nx jp cal) pc := by
  intro lv st h z cn sn r hr
  obtain ⟨rfl, h2⟩ := e_nil_inv (show e_nil st (some (.inl (.inl none), h, z, cn, sn)) = some r from hr)
  cases h2
  refine ⟨⟨Nat.le_refl _, Nat.le_refl _⟩, fun _ _ ρ ws ls Vs H locs S => ?_⟩
  cases vl_nil S.2.1
  exact vx_ret (W.vret (Qc := Qc G.2.2 (.inl (.inl none), h, z, cn, sn)) w.1 w.2.1 hr9 (q_end (o := .inl (.inl none)) S (V := none) trivial _) S.2.2.2.2.2.2.2.2 hd w.lk)
/-- 'throw new E()', where nothing catches it -/
theorem s_thr {ik ic e : Nat} {cls : String} (w : Wk G cc nL own) (hT9 : ∀ x ∈ (gc G).exceptionTable.toList, False) (he : ev_ex[e]? = some cls) (hk : Cond.classLink own ik cls ∈ ev_G) (hini : Cond.initialized cls ∈ ev_G)
    (hat : ∀ v ∈ vx_at0 own ic cls ["java/lang/RuntimeException", "java/lang/Exception"], v ∈ lw_tbl ∧ (goodWord v || ev_nk v) = true) (hgood : ∀ v ∈ Cond.classLink own ik cls :: Cond.initialized cls :: vx_at0 own ic cls ["java/lang/RuntimeException", "java/lang/Exception"], vx_ot v = true)
    (hf : Bundle.fit cls = true) (hfn : ∀ n ∈ ["java/lang/RuntimeException", "java/lang/Exception"], Bundle.fit n = true) (d0 : decode cc pc = .ok (.new ik, 3)) (d3 : decode cc (pc + 3) = .ok (.dup, 1)) (d4 : decode cc (pc + 4) = .ok (.invokespecial ic, 3)) (d7 : decode cc (pc + 7) = .ok (.athrow, 1)) : Snd G nL (Qm G) (o_thr e nx jp cal) pc := by
  intro lv st h z cn sn r hr
  obtain ⟨hb, h2⟩ := e_if_t (show e_if (Nat.ble (e_wt st) 8) (some (.inl (.inr e), h, z, Nat.succ cn, Nat.add sn 6)) none = some r from hr)
  have hb := Nat.le_of_ble_eq_true hb
  cases h2
  refine ⟨⟨Nat.le_succ _, Nat.le_add_right _ _⟩, fun hcc hss ρ ws ls Vs H locs S => ?_⟩
  have hcc : cn + 1 ≤ (gR G).cells := hcc
  have hss : sn + 6 ≤ (gR G).slots := hss
  have hS := S.2.2.2.2.2.2
  have hsz : ls.size = (gc G).maxLocals := by
    obtain ⟨_, q, hq, _⟩ := S.1
    rw [w.2.2.1]; exact hq.1
  have hwt : (Vs.map fun v => v.category).sum ≤ 8 := by rw [vl_wt S.2.1]; exact hb
  have f1 := w.fr
  have f2 := w.lo
  exact vx_throw0 (names := ["java/lang/RuntimeException", "java/lang/Exception"]) (A := gA G) (mc := cn + 1) (ms := sn + 6) (free := gA G) (Qc := Qc G.2.2 (.inl (.inr e), h, z, cn + 1, sn + 6)) (XC := Xc G.2.2 (.inl (.inr e), h, z, cn + 1, sn + 6)) w.1 w.2.1 w.tr w.2.2.2.1 hf hfn (w.use hk) (w.use hini) (fun v hv => w.any (hat v hv).1 (hat v hv).2) hgood (w.cx.2.2.2.1.narrow w.sub) (w.cx.2.2.2.2.1.narrow w.sub) hS hsz d0 d3 d4 d7 (fun x hx => (hT9 x hx).elim)
    (by show 2 + 3 < _; omega) (by show _ + (13 * (2 + 1) + 42) ≤ _; omega) hcc hss w.lk
    (fun t _ hz hq => ⟨e, ρ, ws, rfl, he, S.2.2.2.1, S.2.2.1, S.2.2.2.2.1.kept (fun k q hk => hq q.1 ((S.2.2.2.2.1 k q hk).lt)), S.2.2.2.2.2.1, ⟨Nat.le_trans hS.1 hz, fun q h1 h2 => (hq q (Nat.lt_of_lt_of_le h1 hS.1)).trans (hS.2.1 q h1 h2)⟩⟩)
    hS.2.2 (Nat.le_refl _) (Nat.le_refl _)
theorem s_max {ix : Nat} (w : Wk G cc nL own) (h1 : Cond.methodLink own ix Lib.Math.max.name ∈ ev_G) (h2 : Cond.static Lib.Math.max.name ∈ ev_G) (h3 : Cond.initialized "java/lang/Math" ∈ ev_G) (h4 : Cond.code Lib.Math.max.name Lib.Math.max.code 2 (some .int) ∈ ev_G) (hd : decode cc pc = .ok (.invokestatic ix, 3)) (k : Snd G nL Q nx (pc + 3)) : Snd G nL Q (o_max nx jp cal) pc := by
  intro lv st h z cn sn r hr
  obtain ⟨b, t, rfl, g1⟩ := e_pI_inv (show e_pI st (fun b s => e_pI s fun a s => e_if (Nat.ble (e_wt s) 8) (e_if (Nat.ble (Nat.mod (Nat.add b 2147483648) 4294967296) (Nat.mod (Nat.add a 2147483648) 4294967296)) (nx lv (.inl a :: s) h z cn sn) (nx lv (.inl b :: s) h z cn sn)) none) = some r from hr)
  obtain ⟨a, t, rfl, g2⟩ := e_pI_inv g1
  obtain ⟨hb, g2⟩ := e_if_t g2
  have hb := Nat.le_of_ble_eq_true hb
  have f1 := w.fr
  have f2 := w.lo
  rcases e_if_inv g2 with ⟨hc, g3⟩ | ⟨hc, g3⟩
  · obtain ⟨hm, hk⟩ := k _ _ _ _ _ _ _ g3
    refine ⟨hm, fun hcc hss ρ ws ls Vs H locs S => ?_⟩
    obtain ⟨T, rfl, hb9, hT⟩ := vl_int S.2.1
    obtain ⟨T2, rfl, ha9, hT2⟩ := vl_int hT
    have hsz : (gc G).maxLocals = ls.size := by
      obtain ⟨_, q, hq, _⟩ := S.1
      rw [w.2.2.1]; exact hq.1.symm
    have hwt : (T2.map fun v => v.category).sum ≤ 8 := by rw [vl_wt hT2]; exact hb
    refine va_mmax w.1 w.2.1 hsz w.2.2.2.1 (w.use h1) (w.use h2) (w.use h3) (w.use h4) (by omega) (by omega) (Nat.le_trans hm.1 hcc) (Nat.le_trans hm.2 hss) hd ?_
    rw [if_neg (fun q => (q_lt ha9 hb9).mp q (Nat.le_of_ble_eq_true hc))]
    exact hk hcc hss ρ ws ls _ H locs ⟨S.1, ⟨⟨ha9, rfl⟩, hT2⟩, S.2.2⟩
  · obtain ⟨hm, hk⟩ := k _ _ _ _ _ _ _ g3
    refine ⟨hm, fun hcc hss ρ ws ls Vs H locs S => ?_⟩
    obtain ⟨T, rfl, hb9, hT⟩ := vl_int S.2.1
    obtain ⟨T2, rfl, ha9, hT2⟩ := vl_int hT
    have hsz : (gc G).maxLocals = ls.size := by
      obtain ⟨_, q, hq, _⟩ := S.1
      rw [w.2.2.1]; exact hq.1.symm
    have hwt : (T2.map fun v => v.category).sum ≤ 8 := by rw [vl_wt hT2]; exact hb
    refine va_mmax w.1 w.2.1 hsz w.2.2.2.1 (w.use h1) (w.use h2) (w.use h3) (w.use h4) (by omega) (by omega) (Nat.le_trans hm.1 hcc) (Nat.le_trans hm.2 hss) hd ?_
    rw [if_pos ((q_lt ha9 hb9).mpr (fun q => by
      rw [show Nat.ble (Nat.mod (Nat.add b 2147483648) 4294967296) (Nat.mod (Nat.add a 2147483648) 4294967296) = true from Nat.ble_eq_true_of_le q] at hc
      cases hc))]
    exact hk hcc hss ρ ws ls _ H locs ⟨S.1, ⟨⟨hb9, rfl⟩, hT2⟩, S.2.2⟩
theorem s_oi {ix : Nat} (w : Wk G cc nL own) (h1 : Cond.methodLink own ix Lib.objectInit ∈ ev_G) (h2 : Cond.instanceMethod Lib.objectInit ∈ ev_G) (h3 : Cond.code Lib.objectInit ⟨#[0xb1]⟩ 1 none ∈ ev_G) (hd : decode cc pc = .ok (.invokespecial ix, 3)) (k : Snd G nL Q nx (pc + 3)) : Snd G nL Q (o_oinit nx jp cal) pc := by
  intro lv st h z cn sn r hr
  obtain ⟨x, t, rfl, g1⟩ := e_pR_inv (show e_pR st (fun _ s => e_if (Nat.ble (e_wt s) 8) (nx lv s h z cn sn) none) = some r from hr)
  obtain ⟨hb, g2⟩ := e_if_t g1
  have hb := Nat.le_of_ble_eq_true hb
  obtain ⟨hm, hk⟩ := k _ _ _ _ _ _ _ g2
  refine ⟨hm, fun hcc hss ρ ws ls Vs H locs S => ?_⟩
  obtain ⟨a, T, rfl, ha, hT⟩ := vl_ref S.2.1
  have hsz : ls.size = (gc G).maxLocals := by
    obtain ⟨_, q, hq, _⟩ := S.1
    rw [w.2.2.1]; exact hq.1
  have hwt : (T.map fun v => v.category).sum ≤ 8 := by rw [vl_wt hT]; exact hb
  have f1 := w.fr
  have f2 := w.lo
  exact W.objInit w.1 w.2.1 w.2.2.2.1 (w.use h1) (w.use h2) (w.use h3) (g := F0 (gm G) pc ls (.ref a :: T)) rfl hsz rfl hd (by omega) (by show 2 * 0 + _ + 12 ≤ _; omega) (hk hcc hss ρ ws ls _ H locs ⟨S.1, hT, S.2.2⟩)
end ENDS
end
section
/-! CALLS -/
theorem ev_warm {w : Cond} {s U : State} (hW : s.WarmedH U.vm) (g : ev_nk w = true) (h : va_Nw w s) : va_Nw w U := by
  cases w with
  | fieldLinkNest => exact va_Nw.warmF hW h
  | methodLinkNest => exact va_Nw.warmM hW h
  | declares => exact va_Nw.warmD hW h
  | castable => exact va_Nw.warmC hW h
  | _ => cases g
theorem Cy_call {Y : Yt} {s U : State} {H : Heap} {locs : List Loc} {A : Nat → Prop} (h : Cy Y s) (hA : ∀ q, A q → Y.2.2.2.2.1 q) (hS : va_S A s.heap H locs) (hU : U.heap = H) (hW : s.WarmedH U.vm) : Cy Y U := by
  obtain ⟨hK, hN, hc, z1, z2, hX, hb, hbA, hf⟩ := h
  have hk : ∀ a : Nat, a < s.heap.size → ¬ Y.2.2.2.2.1 a → H[a]? = s.heap[a]? := fun a h1 h2 => hS.2.1 a h1 (fun z => h2 (hA a z))
  subst hU
  exact ⟨va_K.moved hW.alike hK, fun w hw => ev_warm hW (List.mem_filter.mp hw).2 (hN w hw), fun q hq => (hc q hq).moved hW.alike, vx_Zq.moved hW.alike (z1.kept hk), vx_Zq.moved hW.alike (z2.kept hk), (hX.kept (hk _ hb hbA)).moved hW.alike, Nat.lt_of_lt_of_le hb hS.1, hbA, fun q hq => hf q (Nat.le_trans hS.1 hq)⟩
theorem Cy_calling {Y : Yt} {U : State} (h : Cy Y U) (g : JFrame) (mk : MethodId) (a : Array Value) : Cy Y (U.calling g mk a) := by
  obtain ⟨hK, hN, hc, z1, z2, hX, hb, hbA, hf⟩ := h
  have hvm : U.vm.Alike (U.calling g mk a).vm := Vm.Alike.refl U.vm
  exact ⟨va_K.moved hvm hK, fun w hw => va_Nw.same (u := U) (U := U.calling g mk a) (ev_on (List.mem_filter.mp hw).2) rfl (hN w hw), fun q hq => (hc q hq).moved hvm, vx_Zq.moved hvm z1, vx_Zq.moved hvm z2, hX.moved hvm, hb, hbA, hf⟩
abbrev Mi : Type := MethodName × (ByteArray × (Nat × (Option FieldType × List (Nat × Nat × Nat × Nat))))
def eW (q : Mi) : Cond := match q.2.2.2.2 with
  | [] => .code q.1 q.2.1 q.2.2.1 q.2.2.2.1
  | t :: l => .codeWith q.1 q.2.1 q.2.2.1 q.2.2.2.1 (t :: l)
def rmd (d c n : Nat) : Room := { frames := 10 + d, cells := c, slots := n, locals := 200 + 60 * d }
def aC (ρ : List Nat) (sz : Nat) : Nat → Prop := fun q => (∃ k : Nat, ρ[k]? = some q) ∨ sz ≤ q
def yMk (Y : Yt) (A : Nat → Prop) (ρ : List Nat) : Yt := (Y.1, (Y.2.1, (Y.2.2.1, (Y.2.2.2.1, (Y.2.2.2.2.1, (A, ρ))))))
def PF (Y : Yt) (sz : Nat) (h : AH) (z : Nat) (ws : va_W) (U : State) : Prop := U.heap.size = sz ∧ Cy Y U ∧ HR Y.1 Y.2.2.1 Y.2.2.2.1 h z Y.2.2.2.2.2.2 ws ∧ va_P Y.2.1 ev_cl ws U.heap ∧ va_D Y.2.2.2.2.2.1 ws ∧ (∀ q, Y.2.2.2.2.2.1 q → Y.2.2.2.2.1 q)
/-- what the evaluator says of a call is so of the machine's: with the depth d -/
def CalOK (l : Launch) (tab : List En) (d : Nat) (Y : Yt) (cal : Cal) : Prop := ∀ (y : Nat) (as : List AV) (h : AH) (z : Nat) (r : Rs) (en : En), tab[y]? = some en → cal y as h z = some r → (∃ o, r.1 = .inl o) → ∀ (ρ : List Nat) (ws : va_W) (sz : Nat) (Vs : List Value), vl Y.1 ρ as Vs →
  vx_Met l en.2.1 (eW en.2 :: ev_G) (rmd d r.2.2.2.1 r.2.2.2.2) (va_Pc Vs (PF (yMk Y (aC ρ sz) ρ) sz h z ws)) (Qc (yMk Y (aC ρ sz) ρ) r) (Xc (yMk Y (aC ρ sz) ρ) r) r.2.2.2.1 r.2.2.2.2 (aC ρ sz)
theorem PF_blind {Y : Yt} {sz : Nat} {h : AH} {z : Nat} {ws : va_W} {Vs : List Value} : FrameBlind (va_Pc Vs (PF Y sz h z ws)) := by
  intro a U g mk q
  obtain ⟨q0, q1, q2, q3, q4, q5, q6⟩ := q
  exact ⟨q0, q1, Cy_calling q2 g mk a, q3, q4, q5, q6⟩
section CALLS
variable {G : Gm} {nL : Nat} {Q : Rs → State → Prop} {nx : Kt} {jp : Nat → Kt} {cal : Cal} {cc : ByteArray} {own : String} {pc : Nat}
/-- the world's cells are the caller's own -/
theorem q_own {lv st : List AV} {h : AH} {z : Nat} {ρ : List Nat} {ws : va_W} {ls : Array Slot} {Vs : List Value} {H : Heap} {locs : List Loc} (w : Wk G cc nL own) (S : St G nL lv st h z ρ ws ls Vs H locs) : ∀ q, aC ρ H.size q → gA G q := by
  intro q hq
  rcases hq with ⟨k, hk⟩ | hq
  · obtain ⟨-, -, h3, -⟩ := S.2.2.1
    rw [← h3, List.getElem?_map] at hk
    cases hw : ws[k]? with
    | none => rw [hw] at hk; cases hk
    | some p =>
      rw [hw] at hk
      cases hk
      exact S.2.2.2.2.2.1.2 k p hw
  · exact w.fresh q (Nat.le_trans S.2.2.2.2.2.2.1 hq)
/-- the callee's start -/
theorem q_pre {lv st as : List AV} {h : AH} {z : Nat} {ρ : List Nat} {ws : va_W} {ls : Array Slot} {Vs As : List Value} {H : Heap} {locs : List Loc} (w : Wk G cc nL own) (S : St G nL lv st h z ρ ws ls Vs H locs) : ∀ U : State, U.heap = H → (gs G).WarmedH U.vm → va_Pc As (PF (yMk G.2.2 (aC ρ H.size) ρ) H.size h z ws) As.toArray U := by
  intro U hU hW
  refine ⟨rfl, by rw [hU], ?_, S.2.2.1, by rw [hU]; exact S.2.2.2.2.1, ⟨S.2.2.2.2.2.1.1, fun k p hk => Or.inl ⟨k, ?_⟩⟩, fun q hq => w.sub q (q_own w S q hq)⟩
  · have h1 := Cy_call w.cx w.sub S.2.2.2.2.2.2 hU hW
    exact h1
  · obtain ⟨-, -, h3, -⟩ := S.2.2.1
    show ρ[k]? = some p.1
    rw [← h3, List.getElem?_map, hk]
    rfl
/-- what a call brings back -/
theorem s_run {lv t : List AV} {h : AH} {z cn sn : Nat} {ρ : List Nat} {ws : va_W} {ls : Array Slot} {Vs0 T9 : List Value} {H : Heap} {locs : List Loc} {a : Array Value} {Q0 : State → Prop} {r2 : Rs} (w : Wk G cc nL own) (S : St G nL lv t h z ρ ws ls T9 H locs)
    (hrun : vx_Run (gp G) (gl G) (ge G) (gR G) (gs G) (gm G) (ga G) (gb G) (gk G) (gc G) H locs cn sn r2.2.2.2.1 r2.2.2.2.2 (F0 (gm G) pc ls Vs0) T9 (Qc (yMk G.2.2 (aC ρ H.size) ρ) r2 a) (Xc (yMk G.2.2 (aC ρ H.size) ρ) r2) (aC ρ H.size))
    (kr : ∀ (V : Option Value) (ρ' : List Nat) (ws' : va_W) (H1 : Heap) (locs1 : List Loc), rvo (gX G) ρ' r2.1 V → St G nL lv t r2.2.1 r2.2.2.1 ρ' ws' ls T9 H1 locs1 → gW G H1 locs1 (cn + r2.2.2.2.1) (sn + r2.2.2.2.2) Q0 (F0 (gm G) (pc + 3) ls (V.toList ++ T9)))
    (kx : ∀ (e : Nat) (E : String) (q : Addr) (ce : Cell) (ρ' : List Nat) (ws' : va_W) (H1 : Heap) (locs1 : List Loc), r2.1 = .inl (.inr e) → ev_ex[e]? = some E → St G nL lv t r2.2.1 r2.2.2.1 ρ' ws' ls T9 H1 locs1 → H1[q]? = some ce → ce.vm = .none → (gs G).vm.findClass E = some ce.cls → vx_W (gp G) (gl G) (ge G) (gR G) (gs G) (gm G) (ga G) (gb G) (gk G) (gc G) H1 locs1 (cn + r2.2.2.2.1) (sn + r2.2.2.2.2) Q0 (F0 (gm G) pc ls T9) q) : gW G H locs cn sn Q0 (F0 (gm G) pc ls Vs0) := by
  have hown := q_own w S
  have hS := S.2.2.2.2.2.2
  intro T hT X
  rcases hrun T hT X with ⟨v, st₀, t2, T', L, h0, X', hL, e1, e2, hq, go⟩ | ⟨q, st₀, t2, T', L, E, ce, h0, X', hL, e1, e2, hx, hce, hcv, hcl, go⟩
  · obtain ⟨V, ρ', ws', hv, hrv, ⟨t', ht'⟩, hHR, hP, hD, hF⟩ := hq
    cases hv
    obtain ⟨k1, k2, k3⟩ := vx_keep h0 e1 hS (fun q _ h => hown q h) hown hL hF
    obtain ⟨t0, ht0⟩ := S.2.2.2.1
    have ht'2 : ρ' = ρ ++ t' := ht'
    subst ht'2
    obtain ⟨t3, a1, b1⟩ := kr v (ρ ++ t') ws' T'.heap (locs ++ L) hrv ⟨LR_more S.1, vl_more S.2.1, hHR, ⟨t0 ++ t', by rw [ht0, List.append_assoc]⟩, by rw [e1]; exact hP, hD.weaken (fun k p _ h => hown _ h), k3⟩ T' rfl X'
    exact ⟨t3, go t3 a1, b1⟩
  · obtain ⟨e, ρ', ws', hv, hE, ⟨t', ht'⟩, hHR, hP, hD, hF⟩ := hx
    obtain ⟨k1, k2, k3⟩ := vx_keep h0 e1 hS (fun q _ h => hown q h) hown hL hF
    obtain ⟨t0, ht0⟩ := S.2.2.2.1
    have ht'2 : ρ' = ρ ++ t' := ht'
    subst ht'2
    obtain ⟨t3, a1, b1⟩ := kx e E q ce (ρ ++ t') ws' T'.heap (locs ++ L) hv hE ⟨LR_more S.1, vl_more S.2.1, hHR, ⟨t0 ++ t', by rw [ht0, List.append_assoc]⟩, by rw [e1]; exact hP, hD.weaken (fun k p _ h => hown _ h), k3⟩ (by rw [e1]; exact hce) hcv hcl T' rfl X'
    exact ⟨t3, go.trans a1, b1⟩
/-- how an instruction at pc calls the method q with the arguments As -/
def Row (G : Gm) (nL pc d k : Nat) (q : Mi) (rok : Heap → List Value → Prop) : Prop := ∀ (Pc : Array Value → State → Prop) (Qa : Array Value → State → Outcome → State → Prop) (XC : String → State → State → Prop) (mc ms : Nat) (free : Nat → Prop) (As T9 : List Value) (H : Heap) (locs : List Loc) (cn sn : Nat) (ls : Array Slot), vx_Met (gl G) q.1 (eW q :: ev_G) (rmd d mc ms) Pc Qa XC mc ms free → FrameBlind Pc → (∀ U : State, U.heap = H → (gs G).WarmedH U.vm → Pc As.toArray U) → As.length = k → rok H As → ls.size = nL → (T9.map fun v => v.category).sum ≤ 8 → cn + mc ≤ (gR G).cells ∧ sn + ms ≤ (gR G).slots →
  vx_Run (gp G) (gl G) (ge G) (gR G) (gs G) (gm G) (ga G) (gb G) (gk G) (gc G) H locs cn sn mc ms (F0 (gm G) pc ls (As.reverse ++ T9)) T9 (Qa As.toArray) XC free
theorem ev_good : GoodIn ev_G ev_G := fun w h => ⟨h, good_of_word (List.mem_filter.mp h).2⟩
theorem ev_good2 {q : Mi} (h : eW q ∈ ev_G) : GoodIn ev_G (eW q :: ev_G) := fun w hw => (List.mem_cons.mp hw).elim (fun e => by rw [e]; exact ev_good _ h) (ev_good w)
def okV (G : Gm) (C : String) (H : Heap) (As : List Value) : Prop := ∃ (b : Nat) (Bs : List Value), As = .ref b :: Bs ∧ ∃ cell : Cell, H[b]? = some cell ∧ cell.vm.isStatics = false ∧ (gs G).vm.findClass C = some cell.cls
def okI (_ : Heap) (As : List Value) : Prop := ∃ (b : Nat) (Bs : List Value), As = .ref b :: Bs
theorem q_rev (b : Nat) (Bs T9 : List Value) : (Value.ref b :: Bs).reverse ++ T9 = Bs.reverse ++ .ref b :: T9 := by rw [List.reverse_cons, List.append_assoc]; rfl
theorem rowV {nm : MethodName} {bytes : ByteArray} {maxL k d ix : Nat} {ret : Option FieldType} (w : Wk G cc nL own) (h1 : Cond.methodLink own ix nm ∈ ev_G) (h2 : Cond.instanceMethod nm ∈ ev_G) (h3 : Cond.selects nm.cls nm nm ∈ ev_G) (h4 : Cond.initialized nm.cls ∈ ev_G) (h5 : Cond.code nm bytes maxL ret ∈ ev_G)
    (hd9 : nm.cls ≠ "java/lang/invoke/MethodHandle" ∧ nm.cls ≠ "java/lang/invoke/VarHandle" ∧ (parseMethodDescriptor nm.desc).map (fun d => d.parameters.length) = some k) (hR : 10 + d + 1 ≤ (gR G).frames ∧ 8 + (maxL + 11) + (200 + 60 * d) ≤ (gR G).locals) (hd : decode cc pc = .ok (.invokevirtual ix, 3)) : Row G nL pc d (k + 1) (nm, bytes, maxL, ret, []) (okV G nm.cls) := by
  intro Pc Qa XC mc ms free As T9 H locs cn sn ls hM hbl hpre hlen hok hsz hwt hroom
  obtain ⟨b, Bs, rfl, cell, g1, g2, g3⟩ := hok
  have hn : Bs.length = k := by simpa using hlen
  rw [q_rev]
  exact vx_runV (As := Bs) (b := b) (C := nm.cls) ⟨w.1, w.2.1, w.2.2.1, w.2.2.2.1, fun v h => w.use h⟩ hM ⟨callB_of k (fun v h => w.use h) (ev_good2 (q := (nm, bytes, maxL, ret, [])) h5) rfl rfl rfl (w.use h4) (w.use h1) hd9 hR, w.use h2, w.use h3⟩ ⟨hbl, ⟨cell, g1, g2, g3⟩, hpre⟩ rfl hn hsz rfl (by show 2 * 0 + _ ≤ 8; omega) hd hroom
theorem rowS {nm : MethodName} {bytes : ByteArray} {maxL k d ix : Nat} {ret : Option FieldType} (w : Wk G cc nL own) (h1 : Cond.methodLink own ix nm ∈ ev_G) (h2 : Cond.static nm ∈ ev_G) (h4 : Cond.initialized nm.cls ∈ ev_G) (h5 : Cond.code nm bytes maxL ret ∈ ev_G)
    (hd9 : nm.cls ≠ "java/lang/invoke/MethodHandle" ∧ nm.cls ≠ "java/lang/invoke/VarHandle" ∧ (parseMethodDescriptor nm.desc).map (fun d => d.parameters.length) = some k) (hR : 10 + d + 1 ≤ (gR G).frames ∧ 8 + (maxL + 11) + (200 + 60 * d) ≤ (gR G).locals) (hd : decode cc pc = .ok (.invokestatic ix, 3)) : Row G nL pc d k (nm, bytes, maxL, ret, []) (fun _ _ => True) := by
  intro Pc Qa XC mc ms free As T9 H locs cn sn ls hM hbl hpre hlen hok hsz hwt hroom
  exact vx_runS (As := As) ⟨w.1, w.2.1, w.2.2.1, w.2.2.2.1, fun v h => w.use h⟩ hM ⟨callB_of k (fun v h => w.use h) (ev_good2 (q := (nm, bytes, maxL, ret, [])) h5) rfl rfl rfl (w.use h4) (w.use h1) hd9 hR, w.use h2⟩ ⟨hbl, hpre⟩ rfl hlen hsz rfl (by show 2 * 0 + _ ≤ 8; omega) hd hroom
theorem rowSX {nm : MethodName} {bytes : ByteArray} {maxL k d ix : Nat} {ret : Option FieldType} {t9 : Nat × Nat × Nat × Nat} {l9 : List (Nat × Nat × Nat × Nat)} (w : Wk G cc nL own) (h1 : Cond.methodLink own ix nm ∈ ev_G) (h2 : Cond.static nm ∈ ev_G) (h4 : Cond.initialized nm.cls ∈ ev_G) (h5 : Cond.codeWith nm bytes maxL ret (t9 :: l9) ∈ ev_G)
    (hd9 : nm.cls ≠ "java/lang/invoke/MethodHandle" ∧ nm.cls ≠ "java/lang/invoke/VarHandle" ∧ (parseMethodDescriptor nm.desc).map (fun d => d.parameters.length) = some k) (hR : 10 + d + 1 ≤ (gR G).frames ∧ 8 + (maxL + 11) + (200 + 60 * d) ≤ (gR G).locals) (hd : decode cc pc = .ok (.invokestatic ix, 3)) : Row G nL pc d k (nm, bytes, maxL, ret, t9 :: l9) (fun _ _ => True) := by
  intro Pc Qa XC mc ms free As T9 H locs cn sn ls hM hbl hpre hlen hok hsz hwt hroom
  refine vx_runSX (hh := t9 :: l9) (As := As) ⟨w.1, w.2.1, w.2.2.1, w.2.2.2.1, fun v h => w.use h⟩ hM ⟨⟨rfl, rfl, hR.1, hR.2, pay_in (fun v h => w.use h) (ev_good2 (q := (nm, bytes, maxL, ret, t9 :: l9)) h5), List.mem_cons_self⟩, w.use h5, w.use h4, ⟨hd9.1, hd9.2.1⟩, fun sig h => ?_, w.use h1, w.use h2⟩ ⟨hbl, hpre⟩ rfl hlen hsz rfl (by show 2 * 0 + _ ≤ 8; omega) hd hroom
  have h9 := hd9.2.2
  rw [h] at h9
  exact (Option.some.inj h9).symm
theorem rowI {nm : MethodName} {bytes : ByteArray} {maxL k d ix : Nat} (w : Wk G cc nL own) (h1 : Cond.methodLink own ix nm ∈ ev_G) (h2 : Cond.instanceMethod nm ∈ ev_G) (h4 : Cond.initialized nm.cls ∈ ev_G) (h5 : Cond.code nm bytes maxL none ∈ ev_G) (h6 : nm.name = "<init>")
    (hd9 : nm.cls ≠ "java/lang/invoke/MethodHandle" ∧ nm.cls ≠ "java/lang/invoke/VarHandle" ∧ (parseMethodDescriptor nm.desc).map (fun d => d.parameters.length) = some k) (hR : 10 + d + 1 ≤ (gR G).frames ∧ 8 + (maxL + 11) + (200 + 60 * d) ≤ (gR G).locals) (hd : decode cc pc = .ok (.invokespecial ix, 3)) : Row G nL pc d (k + 1) (nm, bytes, maxL, none, []) okI := by
  intro Pc Qa XC mc ms free As T9 H locs cn sn ls hM hbl hpre hlen hok hsz hwt hroom
  obtain ⟨b, Bs, rfl⟩ := hok
  have hn : Bs.length = k := by simpa using hlen
  rw [q_rev]
  exact vx_runI (As := Bs) (b := b) ⟨w.1, w.2.1, w.2.2.1, w.2.2.2.1, fun v h => w.use h⟩ hM ⟨callB_of k (fun v h => w.use h) (ev_good2 (q := (nm, bytes, maxL, none, [])) h5) rfl rfl rfl (w.use h4) (w.use h1) hd9 hR, h6, w.use h2⟩ ⟨hbl, hpre⟩ rfl hn hsz rfl (by show 2 * 0 + _ ≤ 8; omega) hd hroom
theorem rowIN {nm : MethodName} {bytes : ByteArray} {maxL k d ix : Nat} {host : String} (w : Wk G cc nL own) (h1 : Cond.methodLinkNest own ix nm host ∈ ev_N) (h2 : Cond.instanceMethod nm ∈ ev_G) (h4 : Cond.initialized nm.cls ∈ ev_G) (h5 : Cond.code nm bytes maxL none ∈ ev_G) (h6 : nm.name = "<init>")
    (hd9 : nm.cls ≠ "java/lang/invoke/MethodHandle" ∧ nm.cls ≠ "java/lang/invoke/VarHandle" ∧ (parseMethodDescriptor nm.desc).map (fun d => d.parameters.length) = some k) (hR : 10 + d + 1 ≤ (gR G).frames ∧ 8 + (maxL + 11) + (200 + 60 * d) ≤ (gR G).locals) (hd : decode cc pc = .ok (.invokespecial ix, 3)) : Row G nL pc d (k + 1) (nm, bytes, maxL, none, []) okI := by
  intro Pc Qa XC mc ms free As T9 H locs cn sn ls hM hbl hpre hlen hok hsz hwt hroom
  obtain ⟨b, Bs, rfl⟩ := hok
  have hn : Bs.length = k := by simpa using hlen
  rw [q_rev]
  exact vx_runIN (host := host) (As := Bs) (b := b) ⟨w.1, w.2.1, w.2.2.1, w.2.2.2.1, fun v h => w.use h⟩ hM ⟨va_cnB k (fun v h => w.use h) (ev_good2 (q := (nm, bytes, maxL, none, [])) h5) rfl rfl rfl (w.cx.2.1 _ h1) (w.use h4) hd9 hR, h6, w.use h2⟩ ⟨hbl, hpre⟩ rfl hn hsz rfl (by show 2 * 0 + _ ≤ 8; omega) hd hroom
/-- a method without handlers: what is thrown in a call goes on -/
theorem q_thrown {lv t : List AV} {ρ : List Nat} {ws : va_W} {ls : Array Slot} {T9 : List Value} {H1 : Heap} {locs1 : List Loc} {e : Nat} {E : String} {q : Addr} {ce : Cell} {h : AH} {z cn sn : Nat} (w : Wk G cc nL own) (hT9 : ∀ x ∈ (gc G).exceptionTable.toList, False) (hE : ev_ex[e]? = some E) (S : St G nL lv t h z ρ ws ls T9 H1 locs1) (hce : H1[q]? = some ce) (hcv : ce.vm = .none) (hcl : (gs G).vm.findClass E = some ce.cls) :
    vx_W (gp G) (gl G) (ge G) (gR G) (gs G) (gm G) (ga G) (gb G) (gk G) (gc G) H1 locs1 cn sn (Qm G (.inl (.inr e), h, z, cn, sn)) (F0 (gm G) pc ls T9) q :=
  vx_out (Qc := Qc G.2.2 (.inl (.inr e), h, z, cn, sn)) (XC := Xc G.2.2 (.inl (.inr e), h, z, cn, sn)) (fun x hx => (hT9 x hx).elim) w.lk hce hcv hcl (fun t ht _ => ⟨e, ρ, ws, rfl, hE, S.2.2.2.1, S.2.2.1, by rw [ht]; exact S.2.2.2.2.1, S.2.2.2.2.2.1, S.2.2.2.2.2.2.F ht⟩) S.2.2.2.2.2.2.2.2 (Nat.le_refl _) (Nat.le_refl _)
theorem q_lsz {ρ : List Nat} {lv : List AV} {ls : Array Slot} (h : LR (gX G) ρ nL lv ls) : ls.size = nL := by
  obtain ⟨_, q, hq, _⟩ := h
  exact hq.1
/-- a call's arguments off the stack -/
theorem q_args {ρ : List Nat} {as t : List AV} {Vs : List Value} (h : vl (gX G) ρ (as.reverse ++ t) Vs) : ∃ As T9, Vs = As.reverse ++ T9 ∧ vl (gX G) ρ as As ∧ vl (gX G) ρ t T9 := by
  obtain ⟨A, T, rfl, h1, h2⟩ := vl_app h
  refine ⟨A.reverse, T, by rw [List.reverse_reverse], ?_, h2⟩
  have := vl_rev h1
  rwa [List.reverse_reverse] at this
theorem q_push {ρ : List Nat} {v : Option AV} {V : Option Value} {t : List AV} {T9 : List Value} (h : rvo (gX G) ρ (.inl (.inl v)) V) (h2 : vl (gX G) ρ t T9) : vl (gX G) ρ (e_push v t) (V.toList ++ T9) := by
  cases v with
  | none =>
    cases V with
    | none => exact h2
    | some V => exact h.elim
  | some v =>
    cases V with
    | none => exact h.elim
    | some V => exact ⟨h, h2⟩
/-- a call, its receiver looked at by 'chk' -/
theorem s_call {tab : List En} {y k d : Nat} {q : Mi} {rok : Heap → List Value → Prop} {as t : List AV} {lv : List AV} {h : AH} {z cn sn : Nat} {r : Rs} (w : Wk G cc nL own) (hT9 : ∀ x ∈ (gc G).exceptionTable.toList, False) (hcal : CalOK (gl G) tab d G.2.2 cal) (en : En) (hen : tab[y]? = some en) (he2 : en.2 = q) (row : Row G nL pc d k q rok) (kk : Snd G nL (Qm G) nx (pc + 3)) (hak : as.length = k) (hwt : e_wt t ≤ 8)
    (hchk : ∀ (ρ : List Nat) (ws : va_W) (ls : Array Slot) (Vs As : List Value) (H : Heap) (locs : List Loc), St G nL lv t h z ρ ws ls Vs H locs → vl (gX G) ρ as As → rok H As)
    (hr : e_back (cal y as h z) (fun v h z c2 n2 => e_force (Nat.add cn c2) fun c => e_force (Nat.add sn n2) fun n => nx lv (e_push v t) h z c n) (fun e h z c2 n2 => some (.inl (.inr e), h, z, Nat.add cn c2, Nat.add sn n2)) = some r) :
    (cn ≤ r.2.2.2.1 ∧ sn ≤ r.2.2.2.2) ∧ (r.2.2.2.1 ≤ (gR G).cells → r.2.2.2.2 ≤ (gR G).slots → ∀ (ρ : List Nat) (ws : va_W) (ls : Array Slot) (Vs : List Value) (H : Heap) (locs : List Loc), St G nL lv (as.reverse ++ t) h z ρ ws ls Vs H locs → gW G H locs cn sn (Qm G r) (F0 (gm G) pc ls Vs)) := by
  subst he2
  rcases e_back_inv hr with ⟨v, h', z', c2, n2, g1, g2⟩ | ⟨e, h', z', c2, n2, g1, g2⟩
  · rw [e_force_eq, e_force_eq] at g2
    obtain ⟨hm, hk⟩ := kk _ _ _ _ _ _ _ g2
    have hm1 : cn + c2 ≤ r.2.2.2.1 := hm.1
    have hm2 : sn + n2 ≤ r.2.2.2.2 := hm.2
    refine ⟨⟨by omega, by omega⟩, fun hcc hss ρ ws ls Vs H locs S => ?_⟩
    obtain ⟨As, T9, rfl, hA, hT⟩ := q_args S.2.1
    have S2 : St G nL lv t h z ρ ws ls T9 H locs := ⟨S.1, hT, S.2.2⟩
    refine s_run (r2 := (.inl (.inl v), h', z', c2, n2)) (a := As.toArray) w S2 (row _ _ _ _ _ _ As T9 H locs cn sn ls (hcal y as h z _ en hen g1 ⟨_, rfl⟩ ρ ws H.size As hA) PF_blind (q_pre (as := as) w S2) (by rw [vl_len hA]; exact hak) (hchk ρ ws ls T9 As H locs S2 hA) (q_lsz S.1) (by rw [vl_wt hT]; exact hwt) ⟨by show cn + c2 ≤ _; omega, by show sn + n2 ≤ _; omega⟩) (fun V ρ' ws' H1 locs1 hv S3 => ?_) (fun e E q ce ρ' ws' H1 locs1 hv => by cases hv)
    exact hk hcc hss ρ' ws' ls _ H1 locs1 ⟨S3.1, q_push hv S3.2.1, S3.2.2⟩
  · cases g2
    refine ⟨⟨Nat.le_add_right _ _, Nat.le_add_right _ _⟩, fun hcc hss ρ ws ls Vs H locs S => ?_⟩
    obtain ⟨As, T9, rfl, hA, hT⟩ := q_args S.2.1
    have S2 : St G nL lv t h z ρ ws ls T9 H locs := ⟨S.1, hT, S.2.2⟩
    refine s_run (r2 := (.inl (.inr e), h', z', c2, n2)) (a := As.toArray) w S2 (row _ _ _ _ _ _ As T9 H locs cn sn ls (hcal y as h z _ en hen g1 ⟨_, rfl⟩ ρ ws H.size As hA) PF_blind (q_pre (as := as) w S2) (by rw [vl_len hA]; exact hak) (hchk ρ ws ls T9 As H locs S2 hA) (q_lsz S.1) (by rw [vl_wt hT]; exact hwt) ⟨hcc, hss⟩) (fun V ρ' ws' H1 locs1 hv S3 => by cases V <;> exact hv.elim) (fun e9 E q ce ρ' ws' H1 locs1 hv hE S3 hce hcv hcl => ?_)
    cases hv
    exact q_thrown w hT9 hE S3 hce hcv hcl
theorem s_invS {tab : List En} {y k d : Nat} {q : Mi} (w : Wk G cc nL own) (hT9 : ∀ x ∈ (gc G).exceptionTable.toList, False) (hcal : CalOK (gl G) tab d G.2.2 cal) (en : En) (hen : tab[y]? = some en) (he2 : en.2 = q) (row : Row G nL pc d k q (fun _ _ => True)) (kk : Snd G nL (Qm G) nx (pc + 3)) : Snd G nL (Qm G) (o_invS y k nx jp cal) pc := by
  intro lv st h z cn sn r hr
  obtain ⟨as, t, rfl, h1, h2⟩ := e_take_inv hr
  obtain ⟨h3, h4⟩ := e_if_t h2
  rw [List.append_nil] at h4
  exact s_call w hT9 hcal en hen he2 row kk h1 (Nat.le_of_ble_eq_true h3) (fun _ _ _ _ _ _ _ _ _ => trivial) h4
theorem s_invI {tab : List En} {y k d : Nat} {q : Mi} (w : Wk G cc nL own) (hT9 : ∀ x ∈ (gc G).exceptionTable.toList, False) (hcal : CalOK (gl G) tab d G.2.2 cal) (en : En) (hen : tab[y]? = some en) (he2 : en.2 = q) (row : Row G nL pc d k q okI) (kk : Snd G nL (Qm G) nx (pc + 3)) : Snd G nL (Qm G) (o_invI y k nx jp cal) pc := by
  intro lv st h z cn sn r hr
  obtain ⟨as, t, rfl, h1, h2⟩ := e_take_inv hr
  obtain ⟨h3, h4⟩ := e_if_t h2
  rw [List.append_nil] at h4
  obtain ⟨m, as2, e9, h5⟩ := e_pR_inv h4
  refine s_call w hT9 hcal en hen he2 row kk h1 (Nat.le_of_ble_eq_true h3) (fun ρ ws ls Vs As H locs S hA => ?_) h5
  rw [e9] at hA
  obtain ⟨a, T, rfl, -, -⟩ := vl_ref hA
  exact ⟨a, T, rfl⟩
theorem q_recv {C : String} {T : u_T} {N ci m : Nat} {as as2 fs : List AV} {lv t : List AV} {h : AH} {z : Nat} {ρ : List Nat} {ws : va_W} {ls : Array Slot} {Vs As : List Value} {H : Heap} {locs : List Loc} (w : Wk G cc nL own) (hc : ev_cl[ci]? = some (C, T, N)) (e9 : as = .inr (.inl (m + 1)) :: as2) (h6 : e_cell h m = some (.inl (ci, fs))) (S : St G nL lv t h z ρ ws ls Vs H locs) (hA : vl (gX G) ρ as As) : okV G C H As := by
  rw [e9] at hA
  obtain ⟨a, T, rfl, ha, -⟩ := vl_ref hA
  obtain ⟨E, g1, Fs, rfl, -⟩ := HR_at S.2.2.1 h6 ha
  exact ⟨a, T, rfl, va_recv w.K S.2.2.2.2.1 hc g1⟩
theorem s_invV {tab : List En} {C : String} {T : u_T} {N ci : Nat} {y k d : Nat} {q : Mi} (w : Wk G cc nL own) (hT9 : ∀ x ∈ (gc G).exceptionTable.toList, False) (hcal : CalOK (gl G) tab d G.2.2 cal) (en : En) (hen : tab[y]? = some en) (he2 : en.2 = q) (hc : ev_cl[ci]? = some (C, T, N)) (row : Row G nL pc d k q (okV G C)) (kk : Snd G nL (Qm G) nx (pc + 3)) : Snd G nL (Qm G) (o_invV y k ci nx jp cal) pc := by
  intro lv st h z cn sn r hr
  obtain ⟨as, t, rfl, h1, h2⟩ := e_take_inv hr
  obtain ⟨h3, h4⟩ := e_if_t h2
  rw [List.append_nil] at h4
  obtain ⟨m, as2, e9, h5⟩ := e_pR_inv h4
  obtain ⟨fs, h6, h7⟩ := e_op_inv h5
  have h6 := e_kind_inv h6
  exact s_call w hT9 hcal en hen he2 row kk h1 (Nat.le_of_ble_eq_true h3) (fun ρ ws ls Vs As H locs S hA => q_recv w hc e9 h6 S hA) h7
/-- a call whose exceptions are caught -/
theorem s_invX {tab : List En} {C : String} {T : u_T} {N ci : Nat} {y k d : Nat} {q : Mi} {hs : List (Nat × Nat)} {P : Nat → Nat} (w : Wk G cc nL own) (hcal : CalOK (gl G) tab d G.2.2 cal) (en : En) (hen : tab[y]? = some en) (he2 : en.2 = q) (hc : ev_cl[ci]? = some (C, T, N)) (row : Row G nL pc d k q (okV G C))
    (hcat : ∀ (e t : Nat) (E : String), (e, t) ∈ hs → ev_ex[e]? = some E → ∀ (H1 : Heap) (locs1 : List Loc) (cn sn : Nat) (Q0 : State → Prop) (ls : Array Slot) (T9 : List Value) (q : Addr) (ce : Cell), H1[q]? = some ce → ce.vm = .none → (gs G).vm.findClass E = some ce.cls → gW G H1 locs1 cn sn Q0 (F0 (gm G) (P t) ls [.ref q]) → vx_W (gp G) (gl G) (ge G) (gR G) (gs G) (gm G) (ga G) (gb G) (gk G) (gc G) H1 locs1 cn sn Q0 (F0 (gm G) pc ls T9) q)
    (kj : ∀ t, Snd G nL (Qm G) (jp t) (P t)) (kk : Snd G nL (Qm G) nx (pc + 3)) : Snd G nL (Qm G) (o_invX y k ci hs nx jp cal) pc := by
  subst he2
  intro lv st h z cn sn r hr
  obtain ⟨as, t, rfl, h1, h2⟩ := e_take_inv hr
  obtain ⟨h3, h4⟩ := e_if_t h2
  rw [List.append_nil] at h4
  obtain ⟨m, as2, e9, h5⟩ := e_pR_inv h4
  obtain ⟨fs, h6, h7⟩ := e_op_inv h5
  have h6 := e_kind_inv h6
  have hwt := Nat.le_of_ble_eq_true h3
  rcases e_back_inv h7 with ⟨v, h', z', c2, n2, g1, g2⟩ | ⟨e, h', z', c2, n2, g1, g2⟩
  · rw [e_force_eq, e_force_eq] at g2
    obtain ⟨hm, hk⟩ := kk _ _ _ _ _ _ _ g2
    have hm1 : cn + c2 ≤ r.2.2.2.1 := hm.1
    have hm2 : sn + n2 ≤ r.2.2.2.2 := hm.2
    refine ⟨⟨by omega, by omega⟩, fun hcc hss ρ ws ls Vs H locs S => ?_⟩
    obtain ⟨As, T9, rfl, hA, hT⟩ := q_args S.2.1
    have S2 : St G nL lv t h z ρ ws ls T9 H locs := ⟨S.1, hT, S.2.2⟩
    refine s_run (r2 := (.inl (.inl v), h', z', c2, n2)) (a := As.toArray) w S2 (row _ _ _ _ _ _ As T9 H locs cn sn ls (hcal y as h z _ en hen g1 ⟨_, rfl⟩ ρ ws H.size As hA) PF_blind (q_pre (as := as) w S2) (by rw [vl_len hA]; exact h1) (q_recv w hc e9 h6 S2 hA) (q_lsz S.1) (by rw [vl_wt hT]; exact hwt) ⟨by show cn + c2 ≤ _; omega, by show sn + n2 ≤ _; omega⟩) (fun V ρ' ws' H1 locs1 hv S3 => ?_) (fun e E q ce ρ' ws' H1 locs1 hv => by cases hv)
    exact hk hcc hss ρ' ws' ls _ H1 locs1 ⟨S3.1, q_push hv S3.2.1, S3.2.2⟩
  · obtain ⟨tg, g3, g4⟩ := e_asc_inv g2
    rw [e_force_eq, e_force_eq] at g4
    obtain ⟨hm, hk⟩ := kj tg _ _ _ _ _ _ _ g4
    have hm1 : cn + c2 ≤ r.2.2.2.1 := hm.1
    have hm2 : sn + n2 ≤ r.2.2.2.2 := hm.2
    refine ⟨⟨by omega, by omega⟩, fun hcc hss ρ ws ls Vs H locs S => ?_⟩
    obtain ⟨As, T9, rfl, hA, hT⟩ := q_args S.2.1
    have S2 : St G nL lv t h z ρ ws ls T9 H locs := ⟨S.1, hT, S.2.2⟩
    refine s_run (r2 := (.inl (.inr e), h', z', c2, n2)) (a := As.toArray) w S2 (row _ _ _ _ _ _ As T9 H locs cn sn ls (hcal y as h z _ en hen g1 ⟨_, rfl⟩ ρ ws H.size As hA) PF_blind (q_pre (as := as) w S2) (by rw [vl_len hA]; exact h1) (q_recv w hc e9 h6 S2 hA) (q_lsz S.1) (by rw [vl_wt hT]; exact hwt) ⟨by show cn + c2 ≤ _; omega, by show sn + n2 ≤ _; omega⟩) (fun V ρ' ws' H1 locs1 hv S3 => by cases V <;> exact hv.elim) (fun e9 E q ce ρ' ws' H1 locs1 hv hE S3 hce hcv hcl => ?_)
    cases hv
    exact hcat e tg E g3 hE H1 locs1 _ _ _ ls T9 q ce hce hcv hcl (hk hcc hss ρ' ws' ls _ H1 locs1 ⟨S3.1, ⟨⟨q, rfl⟩, trivial⟩, S3.2.2⟩)
end CALLS
end
section
/-! A METHOD, OUT OF ITS INSTRUCTIONS -/
def OKs (G : Gm) (nL : Nat) (Q : Rs → State → Prop) (cal : Cal) (P : Nat → Nat) : Nat → List Op → Prop
  | _, [] => True
  | i, op :: t => (∀ (nx : Kt) (jp : Nat → Kt), Snd G nL Q nx (P (i + 1)) → (∀ t, Snd G nL Q (jp t) (P t)) → Snd G nL Q (op nx jp cal) (P i)) ∧ OKs G nL Q cal P (i + 1) t
theorem OKs_at {G : Gm} {nL : Nat} {Q : Rs → State → Prop} {cal : Cal} {P : Nat → Nat} {code : List Op} {i j : Nat} {op : Op} (h : OKs G nL Q cal P i code) (hj : code[j]? = some op) : ∀ (nx : Kt) (jp : Nat → Kt), Snd G nL Q nx (P (i + j + 1)) → (∀ t, Snd G nL Q (jp t) (P t)) → Snd G nL Q (op nx jp cal) (P (i + j)) := by
  induction code generalizing i j with
  | nil => simp at hj
  | cons o t ih =>
    cases j with
    | zero =>
      rw [List.getElem?_cons_zero] at hj
      cases hj
      exact h.1
    | succ j =>
      rw [List.getElem?_cons_succ] at hj
      have := ih h.2 hj
      rw [show i + (j + 1) = i + 1 + j by omega]
      exact this
/-- where the run stops for want of fuel -/
def SStp (G : Gm) (nL : Nat) (Q : Rs → State → Prop) (P : Nat → Nat) (n : Nat) : Prop := ∀ (i : Nat) (lv st : List AV) (h : AH) (z cn sn : Nat), i < n → cn ≤ (gR G).cells → sn ≤ (gR G).slots → ∀ (ρ : List Nat) (ws : va_W) (ls : Array Slot) (Vs : List Value) (H : Heap) (locs : List Loc), St G nL lv st h z ρ ws ls Vs H locs → gW G H locs cn sn (Q (.inr (n - i - 1, lv, st), h, z, cn, sn)) (F0 (gm G) (P i) ls Vs)
theorem loop_snd {G : Gm} {nL : Nat} {Q : Rs → State → Prop} {cal : Cal} {P : Nat → Nat} {code : List Op} (h : OKs G nL Q cal P 0 code) (hs : SStp G nL Q P code.length) : ∀ (f i : Nat), Snd G nL Q (e_loop code cal f (e_drop code i)) (P i) := by
  intro f
  induction f with
  | zero =>
    intro i lv st hh z cn sn r hr
    rw [e_drop_eq] at hr
    cases hp : code.drop i with
    | nil => rw [hp] at hr; exact no_none hr
    | cons op rest =>
      rw [hp] at hr
      have hr : some ((.inr (rest.length, lv, st), hh, z, cn, sn) : Rs) = some r := hr
      cases hr
      have hl := congrArg List.length hp
      rw [List.length_drop, List.length_cons] at hl
      have e : rest.length = code.length - i - 1 := by omega
      rw [e]
      exact ⟨⟨Nat.le_refl _, Nat.le_refl _⟩, fun hc hss ρ ws ls Vs H locs S => hs i lv st hh z cn sn (by omega) hc hss ρ ws ls Vs H locs S⟩
  | succ f ih =>
    intro i
    rw [e_drop_eq]
    cases hp : code.drop i with
    | nil => exact Snd_no (fun _ _ _ _ _ _ => rfl)
    | cons op rest =>
      have h1 : code[i]? = some op := by
        have := congrArg (fun l => l[0]?) hp
        simpa using this
      have h2 : rest = e_drop code (i + 1) := by
        rw [e_drop_eq, ← List.drop_drop, hp]
        rfl
      have h3 := OKs_at h h1 (e_loop code cal f rest) (fun t => e_loop code cal f (e_drop code t)) (by rw [h2, Nat.zero_add]; exact ih (i + 1)) (fun t => ih t)
      rw [Nat.zero_add] at h3
      exact h3
theorem SStp_Qm {G : Gm} {nL : Nat} {P : Nat → Nat} {n : Nat} : SStp G nL (Qm G) P n := fun _ _ _ _ _ _ _ _ _ _ _ _ _ _ _ _ _ => fun _ _ _ => ⟨_, Steps.refl _, trivial⟩
/-- what a method's entry in the table must say -/
def MethOK (tab : List En) (B9 : Nat) (en : En) : Prop := plainName en.2.1.cls = true ∧ (∀ v ∈ en.1.2, v = (.inr (.inr (.inr (.inr (.inr 2)))) : AV)) ∧ ∀ (d : Nat), B9 ≤ d → ∀ (G : Gm) (cal : Cal), Wk G en.2.2.1 en.2.2.2.1 en.2.1.cls → (gc G).exceptionTable.toList = tableOf en.2.2.2.2.2 → (gk G).name = en.2.1.name → (gk G).sig.returnType = en.2.2.2.2.1 → CalOK (gl G) tab d G.2.2 cal → 10 + d + 1 ≤ (gR G).frames → 260 + 60 * d ≤ (gR G).locals → ∃ P : Nat → Nat, P 0 = 0 ∧ OKs G en.2.2.2.1 (Qm G) cal P 0 en.1.1
/-- .. with the script given -/
def MethOKX (tab : List En) (B9 : Nat) (X : Nat × (Nat × (Nat → Int32))) (en : En) : Prop := plainName en.2.1.cls = true ∧ (∀ v ∈ en.1.2, v = (.inr (.inr (.inr (.inr (.inr 2)))) : AV)) ∧ ∀ (d : Nat), B9 ≤ d → ∀ (G : Gm) (cal : Cal), gX G = X → Wk G en.2.2.1 en.2.2.2.1 en.2.1.cls → (gc G).exceptionTable.toList = tableOf en.2.2.2.2.2 → (gk G).name = en.2.1.name → (gk G).sig.returnType = en.2.2.2.2.1 → CalOK (gl G) tab d G.2.2 cal → 10 + d + 1 ≤ (gR G).frames → 260 + 60 * d ≤ (gR G).locals → ∃ P : Nat → Nat, P 0 = 0 ∧ OKs G en.2.2.2.1 (Qm G) cal P 0 en.1.1
theorem MethOK.x {tab : List En} {B9 : Nat} {X : Nat × (Nat × (Nat → Int32))} {en : En} (h : MethOK tab B9 en) : MethOKX tab B9 X en := ⟨h.1, h.2.1, fun d hB G cal _ => h.2.2 d hB G cal⟩
theorem q_locs_len {X : Nat × (Nat × (Nat → Int32))} {ρ : List Nat} {as pad : List AV} {Vs : List Value} (h : vl X ρ as Vs) : (e_locs as pad).length = (lg_sl Vs).length + pad.length := by
  induction as generalizing Vs with
  | nil => rw [vl_nil h]; show pad.length = 0 + pad.length; omega
  | cons v as ih =>
    obtain ⟨V, T, rfl, hV, hT⟩ := vl_cons h
    have := ih hT
    show (Bool.rec (motive := fun _ => List AV) (v :: .inr (.inr (.inr (.inr (.inr 2)))) :: e_locs as pad) (v :: e_locs as pad) (e_one v)).length = _
    rw [show lg_sl (V :: T) = (if V.category = 2 then [.val V, .second] else [.val V]) ++ lg_sl T from rfl]
    cases ho : e_one v with
    | true =>
      rw [if_neg (by rw [rv_one hV ho]; decide)]
      simp only [List.length_append, List.length_cons, List.length_nil]
      omega
    | false =>
      rw [if_pos (rv_two hV ho)]
      simp only [List.length_append, List.length_cons, List.length_nil]
      omega
theorem q_locs_at {X : Nat × (Nat × (Nat → Int32))} {ρ : List Nat} {as pad : List AV} {Vs : List Value} (hp : ∀ v ∈ pad, v = (.inr (.inr (.inr (.inr (.inr 2)))) : AV)) (h : vl X ρ as Vs) (i : Nat) : ∀ (j : Nat) (v : AV), (e_locs as pad)[j]? = some v → v = .inr (.inr (.inr (.inr (.inr 2)))) ∨ ∃ V, (i + j, V) ∈ lv_args i Vs ∧ rv X ρ v V := by
  induction as generalizing Vs i with
  | nil => exact fun j v hj => Or.inl (hp v (List.mem_of_getElem? hj))
  | cons u as ih =>
    obtain ⟨U, T, rfl, hU, hT⟩ := vl_cons h
    intro j v hj
    have hj : (Bool.rec (motive := fun _ => List AV) (u :: .inr (.inr (.inr (.inr (.inr 2)))) :: e_locs as pad) (u :: e_locs as pad) (e_one u))[j]? = some v := hj
    cases ho : e_one u with
    | true =>
      rw [ho] at hj
      have hj : (u :: e_locs as pad)[j]? = some v := hj
      have e : lv_args i (U :: T) = (i, U) :: lv_args (i + 1) T := by
        show (i, U) :: lv_args (if U.category = 2 then i + 2 else i + 1) T = _
        rw [if_neg (by rw [rv_one hU ho]; decide)]
      rw [e]
      cases j with
      | zero =>
        rw [List.getElem?_cons_zero] at hj
        cases hj
        exact Or.inr ⟨U, List.mem_cons_self, hU⟩
      | succ j =>
        rw [List.getElem?_cons_succ] at hj
        rcases ih hT (i + 1) j v hj with q | ⟨V, q1, q2⟩
        · exact Or.inl q
        · exact Or.inr ⟨V, List.mem_cons_of_mem _ (by rw [show i + (j + 1) = i + 1 + j by omega]; exact q1), q2⟩
    | false =>
      rw [ho] at hj
      have hj : (u :: .inr (.inr (.inr (.inr (.inr 2)))) :: e_locs as pad)[j]? = some v := hj
      have e : lv_args i (U :: T) = (i, U) :: lv_args (i + 2) T := by
        show (i, U) :: lv_args (if U.category = 2 then i + 2 else i + 1) T = _
        rw [if_pos (rv_two hU ho)]
      rw [e]
      rcases j with _ | _ | j
      · rw [List.getElem?_cons_zero] at hj
        cases hj
        exact Or.inr ⟨U, List.mem_cons_self, hU⟩
      · rw [List.getElem?_cons_succ, List.getElem?_cons_zero] at hj
        cases hj
        exact Or.inl rfl
      · rw [List.getElem?_cons_succ, List.getElem?_cons_succ] at hj
        rcases ih hT (i + 2) j v hj with q | ⟨V, q1, q2⟩
        · exact Or.inl q
        · exact Or.inr ⟨V, List.mem_cons_of_mem _ (by rw [show i + (j + 1 + 1) = i + 2 + j by omega]; exact q1), q2⟩
/-- a method's body -/
theorem body_ok {tab : List En} {d B9 : Nat} {l : Launch} {Y : Yt} {cal : Cal} {en : En} {as : List AV} {h h' : AH} {z z' c' n' : Nat} {o : Option AV ⊕ Nat} {ρ : List Nat} {ws : va_W} {sz : Nat} {Vs : List Value} {wsC : List Cond}
    (hl : l.stackTraces = false) (hB9 : B9 ≤ d) (hm : MethOKX tab B9 Y.1 en) (hcal : CalOK l tab d (yMk Y (aC ρ sz) ρ) cal) (hV : vl Y.1 ρ as Vs) (hfit : (e_locs as en.1.2).length = en.2.2.2.1) (hr : e_loop en.1.1 cal 1000000 en.1.1 (e_locs as en.1.2) [] h z 0 0 = some (.inl o, h', z', c', n')) (hwsC : wsC = eW en.2 :: ev_G)
    {p : Program} {e : Env} {s : State} {m : MethodId} {args : Array Value} {below : List Frame} {meth : Method} {c : Code} {s₁ : State} (B : BodyLoose p l en.2.1 (headSpec wsC (rmd (d + 1) c' n')) en.2.2.1 en.2.2.2.1 en.2.2.2.2.1 e s m args below meth c s₁) (hml : c.maxLocals = en.2.2.2.1) (htb : c.exceptionTable.toList = tableOf en.2.2.2.2.2) (hv : va_Pc Vs (PF (yMk Y (aC ρ sz) ρ) sz h z ws) args s) :
    W p l e (rmd (d + 1) c' n') s m args below meth c s.heap [] 0 0 (vx_MQ below (Qc (yMk Y (aC ρ sz) ρ) (.inl o, h', z', c', n')) (Xc (yMk Y (aC ρ sz) ρ) (.inl o, h', z', c', n')) args s c' n' (aC ρ sz)) (entryFrame m args en.2.2.2.1) := by
  subst hwsC
  obtain ⟨rfl, hsz, hC, hH, hP, hD, hsub⟩ := hv
  let G : Gm := ((p, (l, (e, (rmd (d + 1) c' n', s)))), ((m, (Vs.toArray, (below, (meth, c)))), yMk Y (aC ρ sz) ρ))
  have hts := atoms_spec (ws := eW en.2 :: ev_G) B.pre
  have w : Wk G en.2.2.1 en.2.2.2.1 en.2.1.cls := ⟨B.exec, B.bytes, hml, findClass_of_methodNamed B.named, fun v hv => hts v (List.mem_cons_of_mem _ hv), B.notSynchronized, hC, hsub, fun q hq => Or.inr (by rw [← hsz]; exact hq), hl, by show 10 ≤ 10 + (d + 1); omega, by show 200 ≤ 200 + 60 * (d + 1); omega⟩
  obtain ⟨-, hpad, hm3⟩ := hm
  obtain ⟨P, hP0, hOK⟩ := hm3 d hB9 G cal rfl w htb (name_of_methodNamed B.named B.method).1 B.returns hcal (by show 10 + d + 1 ≤ 10 + (d + 1); omega) (by show 260 + 60 * d ≤ 200 + 60 * (d + 1); omega)
  have h1 := loop_snd hOK SStp_Qm 1000000 0
  rw [hP0, e_drop_eq, List.drop_zero] at h1
  have hlen : (lg_sl Vs).length ≤ en.2.2.2.1 := by
    rw [← hfit, q_locs_len hV]
    omega
  have hent := lv_entry Vs (n := en.2.2.2.1) hlen
  rw [lg_entry_eq]
  generalize (lg_sl Vs ++ List.replicate (en.2.2.2.1 - (lg_sl Vs).length) Slot.unset).toArray = ls at hent ⊢
  have h2 := (h1 _ _ _ _ _ _ _ hr).2 (Nat.le_refl _) (Nat.le_refl _) ρ ws ls [] s.heap [] ⟨⟨hfit, _, hent, fun j v hj => by
    have := q_locs_at hpad hV 0 j v hj
    rw [Nat.zero_add] at this
    exact this⟩, trivial, hH, ⟨[], (List.append_nil ρ).symm⟩, hP, hD, va_S.rf⟩
  exact h2
theorem exec_ok {tab : List En} {l : Launch} (hl : l.stackTraces = false) (B9 : Nat) (hm : ∀ en ∈ tab, MethOK tab B9 en) : ∀ (d : Nat) (Y : Yt), CalOK l tab (B9 + d) Y (e_exec tab d) := by
  intro d
  induction d with
  | zero => exact fun Y y as h z r en hen hr => no_none hr
  | succ d ih =>
    intro Y y as h z r en hen hr ho ρ ws sz Vs hV
    have hr : Option.rec (motive := fun _ => RR) none (fun e => e_if (e_fits (e_locs as e.1.2) e.2.2.2.1) (e_loop e.1.1 (e_exec tab d) 1000000 e.1.1 (e_locs as e.1.2) [] h z 0 0) none) (e_at tab y) = some r := hr
    rw [e_at_eq, hen] at hr
    obtain ⟨hf, hr⟩ := e_if_t (show e_if (e_fits (e_locs as en.1.2) en.2.2.2.1) (e_loop en.1.1 (e_exec tab d) 1000000 en.1.1 (e_locs as en.1.2) [] h z 0 0) none = some r from hr)
    have hf := e_fits_inv hf
    obtain ⟨o, ho⟩ := ho
    obtain ⟨o1, h', z', c', n'⟩ := r
    have ho : o1 = .inl o := ho
    subst ho
    have hmen := hm en (List.mem_of_getElem? hen)
    have hcal := ih (yMk Y (aC ρ sz) ρ)
    obtain ⟨⟨code, pad⟩, nm, bytes, maxL, ret, hh⟩ := en
    cases hh with
    | nil =>
      refine vx_ofW (ws' := ev_G) (cc := bytes) (maxL := maxL) (ret := ret) hmen.1 rfl (fun p e s m args below meth c s₁ B hml ht hv => ?_)
      refine body_ok hl (Nat.le_add_right B9 d) hmen.x hcal hV hf hr rfl B hml ?_ hv
      cases hq : c.exceptionTable.toList with
      | nil => rfl
      | cons x t => exact (ht x (by rw [hq]; exact List.mem_cons_self)).elim
    | cons t9 l9 =>
      refine vx_ofWH (hh := t9 :: l9) (ws' := ev_G) (cc := bytes) (maxL := maxL) (ret := ret) hmen.1 rfl (fun p e s m args below meth c s₁ B hml hv => ?_)
      exact body_ok hl (Nat.le_add_right B9 d) hmen.x hcal hV hf hr rfl B hml (vx_table (x := nm) B (atoms_spec (ws := _) B.pre _ List.mem_cons_self)) hv
/-- one method's contract, its calls being 'cal' -/
theorem met_en {tab : List En} {d B9 : Nat} {l : Launch} {Y : Yt} {cal : Cal} {en : En} {as : List AV} {h h' : AH} {z z' c' n' : Nat} {o : Option AV ⊕ Nat} (hl : l.stackTraces = false) (hB9 : B9 ≤ d) (hm : MethOKX tab B9 Y.1 en) (hh : en.2.2.2.2.2 = []) (hcal : ∀ ρ sz, CalOK l tab d (yMk Y (aC ρ sz) ρ) cal) (hfit : (e_locs as en.1.2).length = en.2.2.2.1) (hr : e_loop en.1.1 cal 1000000 en.1.1 (e_locs as en.1.2) [] h z 0 0 = some (.inl o, h', z', c', n')) (ρ : List Nat) (ws : va_W) (sz : Nat) (Vs : List Value) (hV : vl Y.1 ρ as Vs) :
    vx_Met l en.2.1 (eW en.2 :: ev_G) (rmd (d + 1) c' n') (va_Pc Vs (PF (yMk Y (aC ρ sz) ρ) sz h z ws)) (Qc (yMk Y (aC ρ sz) ρ) (.inl o, h', z', c', n')) (Xc (yMk Y (aC ρ sz) ρ) (.inl o, h', z', c', n')) c' n' (aC ρ sz) := by
  obtain ⟨⟨code, pad⟩, nm, bytes, maxL, ret, hh9⟩ := en
  cases (show hh9 = [] from hh)
  refine vx_ofW (ws' := ev_G) (cc := bytes) (maxL := maxL) (ret := ret) hm.1 rfl (fun p e s m args below meth c s₁ B hml ht hv => ?_)
  refine body_ok hl hB9 hm (hcal ρ sz) hV hfit hr rfl B hml ?_ hv
  cases hq : c.exceptionTable.toList with
  | nil => rfl
  | cons x t => exact (ht x (by rw [hq]; exact List.mem_cons_self)).elim
end
section
/-! which row of a table of handlers takes an exception -/
def ck_row (cts : List (Nat × String)) (E : String) (pc : Nat) (q : Nat × Nat × Nat × Nat) : Bool := !(decide (q.1 ≤ pc) && decide (pc < q.2.1)) || cts.any (fun c => c.1 == q.2.2.2 && decide ((E, c.2) ∈ ev_nc))
theorem q_catch {G : Gm} {cc : ByteArray} {nL : Nat} {own : String} {pc : Nat} {hh : List (Nat × Nat × Nat × Nat)} {E : String} (w : Wk G cc nL own) (htb : (gc G).exceptionTable.toList = tableOf hh) (cts : List (Nat × String)) (hcts : ∀ c ∈ cts, c.1 ≠ 0 ∧ Cond.classLink own c.1 c.2 ∈ ev_G) (n : Nat) (x : Nat × Nat × Nat × Nat) (hx : hh[n]? = some x) (hcov : (decide (x.1 ≤ pc) && decide (pc < x.2.1)) = true) (h0 : x.2.2.2 ≠ 0) (hl : Cond.classLink own x.2.2.2 E ∈ ev_G) (hca : Cond.castable E E ∈ ev_N) (hp : (hh.take n).all (ck_row cts E pc) = true) :
    ∀ (H1 : Heap) (locs1 : List Loc) (cn sn : Nat) (Q0 : State → Prop) (ls : Array Slot) (T9 : List Value) (q : Addr) (ce : Cell), H1[q]? = some ce → ce.vm = .none → (gs G).vm.findClass E = some ce.cls → gW G H1 locs1 cn sn Q0 (F0 (gm G) x.2.2.1 ls [.ref q]) → vx_W (gp G) (gl G) (ge G) (gR G) (gs G) (gm G) (ga G) (gb G) (gk G) (gc G) H1 locs1 cn sn Q0 (F0 (gm G) pc ls T9) q := by
  intro H1 locs1 cn sn Q0 ls T9 q ce hce hcv hcl kk
  have hsplit : hh = hh.take n ++ x :: hh.drop (n + 1) := by
    have h1 := (List.getElem?_eq_some_iff.mp hx)
    obtain ⟨h2, h3⟩ := h1
    rw [← h3, List.getElem_cons_drop, List.take_append_drop]
  have hsp2 : (gc G).exceptionTable.toList = tableOf (hh.take n) ++ (⟨x.1, x.2.1, x.2.2.1, x.2.2.2⟩ : ExceptionTableEntry) :: tableOf (hh.drop (n + 1)) := by
    rw [htb]
    conv => lhs; rw [hsplit]
    simp only [tableOf, List.map_append, List.map_cons]
  refine vx_catch w.2.2.2.1 _ _ _ hsp2 (fun z hz => ?_) hcov h0 (w.use hl) (va_Nw.use rfl (w.cx.2.1 _ hca)) hce hcv hcl kk
  obtain ⟨y, hy, rfl⟩ := List.mem_map.mp hz
  have h1 := List.all_eq_true.mp hp y hy
  unfold ck_row at h1
  rcases Bool.or_eq_true _ _ ▸ h1 with h2 | h2
  · left
    cases hb : (decide (y.1 ≤ pc) && decide (pc < y.2.1)) with
    | false => exact hb
    | true => rw [hb] at h2; cases h2
  · obtain ⟨c, hc, h3⟩ := List.any_eq_true.mp h2
    simp only [Bool.and_eq_true, beq_iff_eq, decide_eq_true_eq] at h3
    obtain ⟨h4, h5⟩ := hcts c hc
    exact Or.inr ⟨by show y.2.2.2 ≠ 0; rw [← h3.1]; exact h4, c.2, by show (Cond.classLink own y.2.2.2 c.2).before _ _ = true; rw [← h3.1]; exact w.use h5, w.cx.2.2.1 _ h3.2⟩
theorem hs_nil {C : String → Nat → Prop} : ∀ (e t : Nat) (E : String), (e, t) ∈ ([] : List (Nat × Nat)) → ev_ex[e]? = some E → C E t := fun _ _ _ h => absurd h List.not_mem_nil
theorem hs_cons {C : String → Nat → Prop} {e0 t0 : Nat} {E0 : String} {l : List (Nat × Nat)} (he : ev_ex[e0]? = some E0) (h0 : C E0 t0) (h : ∀ (e t : Nat) (E : String), (e, t) ∈ l → ev_ex[e]? = some E → C E t) : ∀ (e t : Nat) (E : String), (e, t) ∈ (e0, t0) :: l → ev_ex[e]? = some E → C E t := by
  intro e t E hm hE
  rcases List.mem_cons.mp hm with q | q
  · cases q
    cases Option.some.inj (he.symm.trans hE)
    exact h0
  · exact h e t E q hE
def ck_sw (P : Nat → Nat) (pc : Nat) (ts : List Nat) (offs : Array Int) : Bool := (List.range ts.length).all fun j => match ts[j]?, offs[j]? with
  | some t, some off => decide ((pc : Int) + off = ((P t : Nat) : Int))
  | _, _ => false
theorem q_sw {P : Nat → Nat} {pc : Nat} {ts : List Nat} {offs : Array Int} (h : ck_sw P pc ts offs = true) : ∀ j, j < ts.length → ∃ (t : Nat) (off : Int), ts[j]? = some t ∧ offs[j]? = some off ∧ (pc : Int) + off = ((P t : Nat) : Int) := by
  intro j hj
  have h1 := List.all_eq_true.mp h j (List.mem_range.mpr hj)
  cases ht : ts[j]? with
  | none => rw [ht] at h1; cases h1
  | some t =>
    cases ho : offs[j]? with
    | none => rw [ht, ho] at h1; cases h1
    | some off =>
      rw [ht, ho] at h1
      exact ⟨t, off, rfl, rfl, by simpa using h1⟩
theorem q_room {d x m : Nat} (h : 260 + 60 * d ≤ x) (hm : m ≤ 41) : 8 + (m + 11) + (200 + 60 * d) ≤ x := by omega
def pAt (ps : List Nat) (i : Nat) : Nat := ps.getD i 0
theorem no_tab {c : Code} (h : c.exceptionTable.toList = tableOf []) : ∀ x ∈ c.exceptionTable.toList, False := by
  intro x hx
  rw [h] at hx
  cases hx
theorem s_ifgt {G : Gm} {nL : Nat} {Q : Rs → State → Prop} {nx : Kt} {jp : Nat → Kt} {cal : Cal} {cc : ByteArray} {own : String} {pc : Nat} {off : Int} {t tgt : Nat} (w : Wk G cc nL own) (hd : decode cc pc = .ok (.ifCond .gt off, 3)) (ht : (pc : Int) + off = (tgt : Int)) (kt : Snd G nL Q (jp t) tgt) (k : Snd G nL Q nx (pc + 3)) : Snd G nL Q (o_if t p_gt0 nx jp cal) pc := s_if (P := fun x => 0 < x) (fun _ _ _ _ _ _ _ _ => lv_if_gt w.1 w.2.1 hd ht) (fun a ha => by
  have h : (0 < nI a) ↔ ¬ nI a ≤ 0 := Int32.not_le.symm
  rw [h, q_le0 ha]
  show _ ↔ Bool.rec (motive := fun _ => Bool) (Nat.ble a 2147483647) false (Nat.beq a 0) = true
  cases hb : Nat.beq a 0 with
  | true => exact ⟨fun q => (q (Or.inl (Nat.eq_of_beq_eq_true hb))).elim, fun q => by cases q⟩
  | false =>
    refine ⟨fun q => Nat.ble_eq_true_of_le (Nat.le_of_not_lt (fun q2 => q (Or.inr (Nat.not_le.mpr q2)))), fun q q2 => ?_⟩
    rcases q2 with e | e
    · rw [(q_beq a 0).mp e] at hb; cases hb
    · exact e (Nat.le_of_ble_eq_true q)) kt k
end
section
/-! the code of each method that the law reaches, by a program out of javap (wip/p40/pg.py); where no run comes, o_no -/
def L1_isb : List Nat := [4597454643604897138, 4597454643604897138, 4602768891165194322, 4597454643604897138, 4597454643604897138, 4602768891165194322, 13823348696251000424, 13823348696251000424, 13817944376698155832, 13826861503960349410, 13826861503960349410, 13819385528578914387, 13826861503960349410, 13826861503960349410, 13819385528578914387, 13830779635636161742, 13830779635636161742, 13827401935915633870, 13829563663736771707, 13829563663736771707, 13827762223885823508, 13829563663736771707, 13829563663736771707, 13827762223885823508, 13832130715524372890, 13832130715524372890, 13831229995598898790, 13826861503960349409, 13826861503960349409, 13824069272191379700, 13826861503960349409, 13826861503960349409, 13824069272191379700, 13830779635636161741, 13830779635636161741, 13829203375766582067, 13826861503960349409, 13826861503960349409, 13824069272191379700, 13826861503960349409, 13826861503960349409, 13824069272191379700, 13830779635636161741, 13830779635636161741, 13829203375766582067, 13826861503960349409, 13826861503960349409, 13824069272191379700, 13826861503960349409, 13826861503960349409, 13824069272191379700, 13830779635636161741, 13830779635636161741, 13829203375766582067, 13826861503960349409, 13826861503960349409, 13824069272191379700, 13826861503960349409, 13826861503960349409, 13824069272191379700, 13830779635636161741, 13830779635636161741, 13829203375766582067, 4605561122934164030, 4605561122934164030, 4607632778762754457, 4605561122934164030, 4605561122934164030, 4607632778762754457, 4599075939470750516, 4599075939470750516, 4602678819172646909, 13580604676335730688, 13580604676335730688, 4600877379321698711, 13580604676335730688, 13580604676335730688, 4600877379321698711, 13824249416176474522, 13824249416176474522, 13594115475217842176, 13822447976325526322, 13822447976325526322, 13815242216921733532, 13822447976325526322, 13822447976325526322, 13815242216921733532, 13827852295878370918, 13827852295878370918, 13826050856027422720, 4366802788689117184, 4366802788689117184, 4596373779694328218, 4366802788689117184, 4366802788689117184, 4596373779694328218, 13824249416176474520, 13824249416176474520, 13819745816549104026, 4366802788689117184, 4366802788689117184, 4596373779694328218, 4366802788689117184, 4366802788689117184, 4596373779694328218, 13824249416176474520, 13824249416176474520, 13819745816549104026, 4366802788689117184, 4366802788689117184, 4596373779694328218, 4366802788689117184, 4366802788689117184, 4596373779694328218, 13824249416176474520, 13824249416176474520, 13819745816549104026, 4366802788689117184, 4366802788689117184, 4596373779694328218, 4366802788689117184, 4366802788689117184, 4596373779694328218, 13824249416176474520, 13824249416176474520, 13819745816549104026, 4606912202822375178, 4606912202822375178, 4608308318706860032, 4606912202822375178, 4606912202822375178, 4608308318706860032, 4604029899060858060, 4604029899060858060, 4605831338911806259, 4594572339843380019, 4594572339843380019, 4603129179135383962, 4594572339843380019, 4594572339843380019, 4603129179135383962, 13810738617294363036, 13810738617294363036, 4599976659396224614, 13817944376698155825, 13817944376698155825, 4587366580439587224, 13817944376698155825, 13817944376698155825, 4587366580439587224, 13823348696251000422, 13823348696251000422, 13817944376698155827, 4594572339843380019, 4594572339843380019, 4599976659396224615, 4594572339843380019, 4594572339843380019, 4599976659396224615, 13810738617294363036, 13810738617294363036, 4594572339843380021, 4594572339843380019, 4594572339843380019, 4599976659396224615, 4594572339843380019, 4594572339843380019, 4599976659396224615, 13810738617294363036, 13810738617294363036, 4594572339843380021, 4594572339843380019, 4594572339843380019, 4599976659396224615, 4594572339843380019, 4594572339843380019, 4599976659396224615, 13810738617294363036, 13810738617294363036, 4594572339843380021, 4594572339843380019, 4594572339843380019, 4599976659396224615, 4594572339843380019, 4594572339843380019, 4599976659396224615, 13810738617294363036, 13810738617294363036, 4594572339843380021, 4606371770867090718, 4606371770867090718, 4608038102729217802, 4606371770867090718, 4606371770867090718, 4608038102729217802, 4604029899060858060, 4604029899060858060, 4605831338911806259, 4591149604126578442, 4591149604126578442, 4602498675187552092, 4591149604126578442, 4591149604126578442, 4602498675187552092, 13810738617294363036, 13810738617294363036, 4599976659396224614, 13820106104519293663, 13820106104519293663, 13800290266158863488, 13820106104519293663, 13820106104519293663, 13800290266158863488, 13823348696251000422, 13823348696251000422, 13817944376698155827, 4591149604126578442, 4591149604126578442, 4598895795485655696, 4591149604126578442, 4591149604126578442, 4598895795485655696, 13810738617294363036, 13810738617294363036, 4594572339843380021, 4591149604126578442, 4591149604126578442, 4598895795485655696, 4591149604126578442, 4591149604126578442, 4598895795485655696, 13810738617294363036, 13810738617294363036, 4594572339843380021, 4591149604126578442, 4591149604126578442, 4598895795485655696, 4591149604126578442, 4591149604126578442, 4598895795485655696, 13810738617294363036, 13810738617294363036, 4594572339843380021, 4591149604126578442, 4591149604126578442, 4598895795485655696, 4591149604126578442, 4591149604126578442, 4598895795485655696, 13810738617294363036, 13810738617294363036, 4594572339843380021, 4605561122934164028, 4605561122934164028, 4607632778762754458, 4605561122934164028, 4605561122934164028, 4607632778762754458, 4602678819172646910, 4602678819172646910, 4604480259023595110, 13589611875590471680, 13589611875590471680, 4600877379321698714, 13589611875590471680, 13589611875590471680, 4600877379321698714, 13819745816549104028, 13819745816549104028, 4596373779694328218, 13822447976325526324, 13822447976325526324, 13815242216921733528, 13822447976325526324, 13822447976325526324, 13815242216921733528, 13826050856027422720, 13826050856027422720, 13822447976325526323, 4359484439294640128, 4359484439294640128, 4596373779694328218, 4359484439294640128, 4359484439294640128, 4596373779694328218, 13819745816549104024, 13819745816549104024, 0, 4359484439294640128, 4359484439294640128, 4596373779694328218, 4359484439294640128, 4359484439294640128, 4596373779694328218, 13819745816549104024, 13819745816549104024, 0, 4359484439294640128, 4359484439294640128, 4596373779694328218, 4359484439294640128, 4359484439294640128, 4596373779694328218, 13819745816549104024, 13819745816549104024, 0, 4359484439294640128, 4359484439294640128, 4596373779694328218, 4359484439294640128, 4359484439294640128, 4596373779694328218, 13819745816549104024, 13819745816549104024, 0, 4605561122934164028, 4605561122934164028, 4607632778762754458, 4605561122934164028, 4605561122934164028, 4607632778762754458, 4602678819172646910, 4602678819172646910, 4604480259023595110, 13589611875590471680, 13589611875590471680, 4600877379321698714, 13589611875590471680, 13589611875590471680, 4600877379321698714, 13819745816549104028, 13819745816549104028, 4596373779694328218, 13822447976325526324, 13822447976325526324, 13815242216921733528, 13822447976325526324, 13822447976325526324, 13815242216921733528, 13826050856027422720, 13826050856027422720, 13822447976325526323, 4359484439294640128, 4359484439294640128, 4596373779694328218, 4359484439294640128, 4359484439294640128, 4596373779694328218, 13819745816549104024, 13819745816549104024, 0, 4359484439294640128, 4359484439294640128, 4596373779694328218, 4359484439294640128, 4359484439294640128, 4596373779694328218, 13819745816549104024, 13819745816549104024, 0, 4359484439294640128, 4359484439294640128, 4596373779694328218, 4359484439294640128, 4359484439294640128, 4596373779694328218, 13819745816549104024, 13819745816549104024, 0, 4359484439294640128, 4359484439294640128, 4596373779694328218, 4359484439294640128, 4359484439294640128, 4596373779694328218, 13819745816549104024, 13819745816549104024, 0, 4605561122934164028, 4605561122934164028, 4607632778762754458, 4605561122934164028, 4605561122934164028, 4607632778762754458, 4602678819172646910, 4602678819172646910, 4604480259023595110, 13589611875590471680, 13589611875590471680, 4600877379321698714, 13589611875590471680, 13589611875590471680, 4600877379321698714, 13819745816549104028, 13819745816549104028, 4596373779694328218, 13822447976325526324, 13822447976325526324, 13815242216921733528, 13822447976325526324, 13822447976325526324, 13815242216921733528, 13826050856027422720, 13826050856027422720, 13822447976325526323, 4359484439294640128, 4359484439294640128, 4596373779694328218, 4359484439294640128, 4359484439294640128, 4596373779694328218, 13819745816549104024, 13819745816549104024, 0, 4359484439294640128, 4359484439294640128, 4596373779694328218, 4359484439294640128, 4359484439294640128, 4596373779694328218, 13819745816549104024, 13819745816549104024, 0, 4359484439294640128, 4359484439294640128, 4596373779694328218, 4359484439294640128, 4359484439294640128, 4596373779694328218, 13819745816549104024, 13819745816549104024, 0, 4359484439294640128, 4359484439294640128, 4596373779694328218, 4359484439294640128, 4359484439294640128, 4596373779694328218, 13819745816549104024, 13819745816549104024, 0]
def L2_isb : List Nat := [4599075939470750516, 4599075939470750516, 4599075939470750516, 4599075939470750516, 4599075939470750516, 4599075939470750516, 13822447976325526324, 13822447976325526324, 13822447976325526324, 13827852295878370918, 13827852295878370918, 13827852295878370918, 13827852295878370918, 13827852295878370918, 13827852295878370918, 13831905535543004365, 13831905535543004365, 13831905535543004365, 13827852295878370918, 13827852295878370918, 13827852295878370918, 13827852295878370918, 13827852295878370918, 13827852295878370918, 13831905535543004365, 13831905535543004365, 13831905535543004365, 13824249416176474520, 13824249416176474520, 13824249416176474520, 13824249416176474520, 13824249416176474520, 13824249416176474520, 13830554455654793216, 13830554455654793216, 13830554455654793216, 13824249416176474520, 13824249416176474520, 13824249416176474520, 13824249416176474520, 13824249416176474520, 13824249416176474520, 13830554455654793216, 13830554455654793216, 13830554455654793216, 13824249416176474520, 13824249416176474520, 13824249416176474520, 13824249416176474520, 13824249416176474520, 13824249416176474520, 13830554455654793216, 13830554455654793216, 13830554455654793216, 13824249416176474520, 13824249416176474520, 13824249416176474520, 13824249416176474520, 13824249416176474520, 13824249416176474520, 13830554455654793216, 13830554455654793216, 13830554455654793216, 4606281698874543309, 4606281698874543309, 4606281698874543309, 4606281698874543309, 4606281698874543309, 4606281698874543309, 4604480259023595110, 4604480259023595110, 4604480259023595110, 13815242216921733528, 13815242216921733528, 13815242216921733528, 13815242216921733528, 13815242216921733528, 13815242216921733528, 13822447976325526323, 13822447976325526323, 13822447976325526323, 13815242216921733528, 13815242216921733528, 13815242216921733528, 13815242216921733528, 13815242216921733528, 13815242216921733528, 13822447976325526323, 13822447976325526323, 13822447976325526323, 4596373779694328218, 4596373779694328218, 4596373779694328218, 4596373779694328218, 4596373779694328218, 4596373779694328218, 0, 0, 0, 4596373779694328218, 4596373779694328218, 4596373779694328218, 4596373779694328218, 4596373779694328218, 4596373779694328218, 0, 0, 0, 4596373779694328218, 4596373779694328218, 4596373779694328218, 4596373779694328218, 4596373779694328218, 4596373779694328218, 0, 0, 0, 4596373779694328218, 4596373779694328218, 4596373779694328218, 4596373779694328218, 4596373779694328218, 4596373779694328218, 0, 0, 0, 4606281698874543309, 4606281698874543309, 4606281698874543309, 4606281698874543309, 4606281698874543309, 4606281698874543309, 4604480259023595110, 4604480259023595110, 4604480259023595110, 13815242216921733528, 13815242216921733528, 13815242216921733528, 13815242216921733528, 13815242216921733528, 13815242216921733528, 13822447976325526323, 13822447976325526323, 13822447976325526323, 13815242216921733528, 13815242216921733528, 13815242216921733528, 13815242216921733528, 13815242216921733528, 13815242216921733528, 13822447976325526323, 13822447976325526323, 13822447976325526323, 4596373779694328218, 4596373779694328218, 4596373779694328218, 4596373779694328218, 4596373779694328218, 4596373779694328218, 0, 0, 0, 4596373779694328218, 4596373779694328218, 4596373779694328218, 4596373779694328218, 4596373779694328218, 4596373779694328218, 0, 0, 0, 4596373779694328218, 4596373779694328218, 4596373779694328218, 4596373779694328218, 4596373779694328218, 4596373779694328218, 0, 0, 0, 4596373779694328218, 4596373779694328218, 4596373779694328218, 4596373779694328218, 4596373779694328218, 4596373779694328218, 0, 0, 0, 4606281698874543309, 4606281698874543309, 4606281698874543309, 4606281698874543309, 4606281698874543309, 4606281698874543309, 4604480259023595110, 4604480259023595110, 4604480259023595110, 13815242216921733528, 13815242216921733528, 13815242216921733528, 13815242216921733528, 13815242216921733528, 13815242216921733528, 13822447976325526323, 13822447976325526323, 13822447976325526323, 13815242216921733528, 13815242216921733528, 13815242216921733528, 13815242216921733528, 13815242216921733528, 13815242216921733528, 13822447976325526323, 13822447976325526323, 13822447976325526323, 4596373779694328218, 4596373779694328218, 4596373779694328218, 4596373779694328218, 4596373779694328218, 4596373779694328218, 0, 0, 0, 4596373779694328218, 4596373779694328218, 4596373779694328218, 4596373779694328218, 4596373779694328218, 4596373779694328218, 0, 0, 0, 4596373779694328218, 4596373779694328218, 4596373779694328218, 4596373779694328218, 4596373779694328218, 4596373779694328218, 0, 0, 0, 4596373779694328218, 4596373779694328218, 4596373779694328218, 4596373779694328218, 4596373779694328218, 4596373779694328218, 0, 0, 0, 4606281698874543309, 4606281698874543309, 4606281698874543309, 4606281698874543309, 4606281698874543309, 4606281698874543309, 4604480259023595110, 4604480259023595110, 4604480259023595110, 13815242216921733528, 13815242216921733528, 13815242216921733528, 13815242216921733528, 13815242216921733528, 13815242216921733528, 13822447976325526323, 13822447976325526323, 13822447976325526323, 13815242216921733528, 13815242216921733528, 13815242216921733528, 13815242216921733528, 13815242216921733528, 13815242216921733528, 13822447976325526323, 13822447976325526323, 13822447976325526323, 4596373779694328218, 4596373779694328218, 4596373779694328218, 4596373779694328218, 4596373779694328218, 4596373779694328218, 0, 0, 0, 4596373779694328218, 4596373779694328218, 4596373779694328218, 4596373779694328218, 4596373779694328218, 4596373779694328218, 0, 0, 0, 4596373779694328218, 4596373779694328218, 4596373779694328218, 4596373779694328218, 4596373779694328218, 4596373779694328218, 0, 0, 0, 4596373779694328218, 4596373779694328218, 4596373779694328218, 4596373779694328218, 4596373779694328218, 4596373779694328218, 0, 0, 0, 4606281698874543309, 4606281698874543309, 4606281698874543309, 4606281698874543309, 4606281698874543309, 4606281698874543309, 4604480259023595110, 4604480259023595110, 4604480259023595110, 13815242216921733528, 13815242216921733528, 13815242216921733528, 13815242216921733528, 13815242216921733528, 13815242216921733528, 13822447976325526323, 13822447976325526323, 13822447976325526323, 13815242216921733528, 13815242216921733528, 13815242216921733528, 13815242216921733528, 13815242216921733528, 13815242216921733528, 13822447976325526323, 13822447976325526323, 13822447976325526323, 4596373779694328218, 4596373779694328218, 4596373779694328218, 4596373779694328218, 4596373779694328218, 4596373779694328218, 0, 0, 0, 4596373779694328218, 4596373779694328218, 4596373779694328218, 4596373779694328218, 4596373779694328218, 4596373779694328218, 0, 0, 0, 4596373779694328218, 4596373779694328218, 4596373779694328218, 4596373779694328218, 4596373779694328218, 4596373779694328218, 0, 0, 0, 4596373779694328218, 4596373779694328218, 4596373779694328218, 4596373779694328218, 4596373779694328218, 4596373779694328218, 0, 0, 0, 4606281698874543309, 4606281698874543309, 4606281698874543309, 4606281698874543309, 4606281698874543309, 4606281698874543309, 4604480259023595110, 4604480259023595110, 4604480259023595110, 13815242216921733528, 13815242216921733528, 13815242216921733528, 13815242216921733528, 13815242216921733528, 13815242216921733528, 13822447976325526323, 13822447976325526323, 13822447976325526323, 13815242216921733528, 13815242216921733528, 13815242216921733528, 13815242216921733528, 13815242216921733528, 13815242216921733528, 13822447976325526323, 13822447976325526323, 13822447976325526323, 4596373779694328218, 4596373779694328218, 4596373779694328218, 4596373779694328218, 4596373779694328218, 4596373779694328218, 0, 0, 0, 4596373779694328218, 4596373779694328218, 4596373779694328218, 4596373779694328218, 4596373779694328218, 4596373779694328218, 0, 0, 0, 4596373779694328218, 4596373779694328218, 4596373779694328218, 4596373779694328218, 4596373779694328218, 4596373779694328218, 0, 0, 0, 4596373779694328218, 4596373779694328218, 4596373779694328218, 4596373779694328218, 4596373779694328218, 4596373779694328218, 0, 0, 0]
noncomputable def k_X11_init : List Op := [fun nx jp cal => o_ald 0 (o_oinit (o_ald 0 (o_new 6 8 [.inr (.inl 0), .inr (.inl 0), .inr (.inl 0), .inr (.inl 0), .inr (.inl 0), .inr (.inl 0), .inr (.inl 0), .inl 0] (o_dup (o_invI 105 1 (o_putR 11 0 (o_ald 0 (o_new 1 5 [.inr (.inl 0), .inr (.inl 0), .inr (.inl 0), .inr (.inl 0), .inl 0] (o_dup (o_invI 64 1 (o_putR 11 1 (o_ald 0 (o_new 0 4 [.inl 0, .inl 0, .inl 0, .inl 0] (o_dup (o_invI 59 1 (o_putR 11 2 (o_ald 0 (o_new 2 4 [.inl 0, .inl 0, .inl 0, .inl 0] (o_dup (o_invI 72 1 (o_putR 11 3 (o_ald 0 (o_new 4 9 [.inr (.inl 0), .inr (.inl 0), .inr (.inl 0), .inr (.inl 0), .inl 0, .inl 0, .inl 0, .inl 0, .inl 0] (o_dup (o_invI 81 1 (o_putR 11 4 (o_ald 0 (o_new 5 11 [.inr (.inl 0), .inl 0, .inl 0, .inl 0, .inl 0, .inl 0, .inl 0, .inl 0, .inl 0, .inl 0, .inl 0] (o_dup (o_invI 93 1 (o_putR 11 5 (o_ald 0 (o_new 9 7 [.inr (.inl 0), .inr (.inl 0), .inr (.inl 0), .inr (.inl 0), .inl 0, .inl 0, .inl 0] (o_dup (o_invI 124 1 (o_putR 11 6 (o_ald 0 (o_new 10 8 [.inr (.inl 0), .inr (.inl 0), .inl 0, .inl 0, .inl 0, .inl 0, .inl 0, .inl 0] (o_dup (o_invI 126 1 (o_putR 11 7 (o_ret nx jp cal) jp cal) jp cal) jp cal) jp cal) jp cal) jp cal) jp cal) jp cal) jp cal) jp cal) jp cal) jp cal) jp cal) jp cal) jp cal) jp cal) jp cal) jp cal) jp cal) jp cal) jp cal) jp cal) jp cal) jp cal) jp cal) jp cal) jp cal) jp cal) jp cal) jp cal) jp cal) jp cal) jp cal) jp cal) jp cal) jp cal) jp cal) jp cal) jp cal) jp cal) jp cal) jp cal]
noncomputable def k_X11_allOut : List Op := [fun nx jp cal => o_ald 1 (o_get 8 0 (o_get 3 1 (o_if 2 p_le0 nx jp cal) jp cal) jp cal) jp cal,
  fun nx jp cal => o_ic 0 (o_iret nx jp cal) jp cal,
  o_no]
noncomputable def k_X11_arePursesRight : List Op := [fun nx jp cal => o_ic 0 (o_ist 0 nx jp cal) jp cal,
  fun nx jp cal => o_ild 1 (o_ald 0 (o_get 11 1 (o_get 1 4 (o_if2 6 p_ge nx jp cal) jp cal) jp cal) jp cal) jp cal,
  fun nx jp cal => o_ald 0 (o_get 11 1 (o_get 1 0 (o_ild 1 (o_invV 113 2 7 (o_ist 1 (o_ild 2 (o_if 4 p_lt0 nx jp cal) jp cal) jp cal) jp cal) jp cal) jp cal) jp cal) jp cal,
  fun nx jp cal => o_ild 2 (o_ic 200 (o_ald 0 (o_get 11 0 (o_ild 1 (o_invV 107 2 6 (o_bin f_sub (o_if2 5 p_eq nx jp cal) jp cal) jp cal) jp cal) jp cal) jp cal) jp cal) jp cal,
  o_no,
  fun nx jp cal => o_inc 1 1 (o_go 1 nx jp cal) jp cal,
  fun nx jp cal => o_ic 1 (o_bret 1 nx jp cal) jp cal]
noncomputable def k_X11_baseOf : List Op := [fun nx jp cal => o_ild 0 (o_ic 97 (o_if2 2 p_ne nx jp cal) jp cal) jp cal,
  o_no,
  fun nx jp cal => o_ild 0 (o_ic 98 (o_if2 4 p_ne nx jp cal) jp cal) jp cal,
  o_no,
  fun nx jp cal => o_ild 0 (o_ic 99 (o_if2 6 p_ne nx jp cal) jp cal) jp cal,
  fun nx jp cal => o_ic 10 (o_go 7 nx jp cal) jp cal,
  o_ic 0,
  o_iret]
noncomputable def k_X11_begin : List Op := [fun nx jp cal => o_ald 0 (o_ild 1 (o_invV 33 2 11 (o_ald 0 (o_ild 2 (o_invV 33 2 11 (o_ild 1 (o_ild 2 (o_if2 3 p_ne nx jp cal) jp cal) jp cal) jp cal) jp cal) jp cal) jp cal) jp cal) jp cal,
  o_thr 1,
  o_no,
  fun nx jp cal => o_ald 0 (o_get 11 0 (o_ild 1 (o_invV 109 2 6 (o_ald 0 (o_get 11 3 (o_get 2 0 (o_if2 5 p_lt nx jp cal) jp cal) jp cal) jp cal) jp cal) jp cal) jp cal) jp cal,
  fun nx jp cal => o_ald 0 (o_get 11 0 (o_ild 2 (o_invV 109 2 6 (o_ald 0 (o_get 11 3 (o_get 2 0 (o_if2 6 p_ge nx jp cal) jp cal) jp cal) jp cal) jp cal) jp cal) jp cal) jp cal,
  o_no,
  fun nx jp cal => o_ald 0 (o_get 11 4 (o_get 4 4 (o_if 8 p_ne0 nx jp cal) jp cal) jp cal) jp cal,
  fun nx jp cal => o_ald 0 (o_get 11 2 (o_invV 61 1 0 (o_if 10 p_eq0 nx jp cal) jp cal) jp cal) jp cal,
  o_thr 2,
  o_no,
  fun nx jp cal => o_ald 0 (o_get 11 4 (o_ild 3 (o_ald 0 (o_get 11 3 (o_get 2 3 (o_invV 92 3 4 (o_ald 0 (o_get 11 4 (o_get 4 0 (o_ald 0 (o_get 11 0 (o_ild 1 (o_ald 0 (o_get 11 3 (o_get 2 0 (o_invV 120 4 8 (o_ald 0 (o_get 11 4 (o_get 4 1 (o_ald 0 (o_get 11 0 (o_ild 2 (o_ald 0 (o_get 11 3 (o_get 2 0 (o_invV 120 4 8 (o_ald 0 (o_get 11 5 (o_invV 95 1 5 (o_ald 0 (o_get 11 4 (o_get 4 8 (o_iret nx jp cal) jp cal) jp cal) jp cal) jp cal) jp cal) jp cal) jp cal) jp cal) jp cal) jp cal) jp cal) jp cal) jp cal) jp cal) jp cal) jp cal) jp cal) jp cal) jp cal) jp cal) jp cal) jp cal) jp cal) jp cal) jp cal) jp cal) jp cal) jp cal) jp cal) jp cal) jp cal) jp cal) jp cal]
noncomputable def k_X11_benchAt : List Op := [fun nx jp cal => o_ald 0 (o_ild 1 (o_invV 38 2 11 (o_get 8 2 (o_ild 2 (o_invV 76 2 3 (o_invS 40 1 (o_iret nx jp cal) jp cal) jp cal) jp cal) jp cal) jp cal) jp cal) jp cal]
noncomputable def k_X11_bid : List Op := [fun nx jp cal => o_ald 0 (o_ild 1 (o_invV 33 2 11 (o_ald 0 (o_get 11 2 (o_invV 61 1 0 (o_if 2 p_ne0 nx jp cal) jp cal) jp cal) jp cal) jp cal) jp cal) jp cal,
  o_no,
  fun nx jp cal => o_ild 2 (o_ald 0 (o_invV 25 1 11 (o_if2 4 p_ge nx jp cal) jp cal) jp cal) jp cal,
  o_no,
  fun nx jp cal => o_ald 0 (o_get 11 2 (o_get 0 1 (o_ild 1 (o_if2 6 p_eq nx jp cal) jp cal) jp cal) jp cal) jp cal,
  fun nx jp cal => o_ald 0 (o_ild 1 (o_ild 2 (o_invV 9 3 11 (o_if 7 p_ne0 nx jp cal) jp cal) jp cal) jp cal) jp cal,
  o_no,
  fun nx jp cal => o_ald 0 (o_get 11 2 (o_ild 1 (o_ild 2 (o_invV 63 3 0 (o_ald 0 (o_get 11 2 (o_get 0 3 (o_iret nx jp cal) jp cal) jp cal) jp cal) jp cal) jp cal) jp cal) jp cal) jp cal]
noncomputable def k_X11_bonus : List Op := [fun nx jp cal => o_ald 0 (o_invV 31 1 11 (o_ald 0 (o_get 11 5 (o_get 5 8 (o_if 2 p_ne0 nx jp cal) jp cal) jp cal) jp cal) jp cal) jp cal,
  fun nx jp cal => o_ald 0 (o_get 11 5 (o_get 5 6 (o_ald 0 (o_get 11 3 (o_get 2 1 (o_if2 4 p_ge nx jp cal) jp cal) jp cal) jp cal) jp cal) jp cal) jp cal,
  o_thr 3,
  o_no,
  o_no]
noncomputable def k_X11_bringHome : List Op := [fun nx jp cal => o_ald 0 (o_get 11 4 (o_invV 86 1 4 (o_ast 0 (o_ald 0 (o_get 11 5 (o_ic 1 (o_putZ 5 3 (o_ald 0 (o_ald 1 (o_ald 0 (o_get 11 4 (o_invV 82 1 4 (o_invV 54 3 11 (o_ald 0 (o_get 11 5 (o_get 5 10 (o_ald 0 (o_get 11 5 (o_get 5 8 (o_bin f_add (o_ic 3 (o_if2 2 p_lt nx jp cal) jp cal) jp cal) jp cal) jp cal) jp cal) jp cal) jp cal) jp cal) jp cal) jp cal) jp cal) jp cal) jp cal) jp cal) jp cal) jp cal) jp cal) jp cal) jp cal) jp cal) jp cal) jp cal,
  fun nx jp cal => o_ald 0 (o_get 11 6 (o_get 9 2 (o_ald 0 (o_get 11 5 (o_get 5 5 (o_ic 1 (o_invV 111 3 7 nx jp cal) jp cal) jp cal) jp cal) jp cal) jp cal) jp cal) jp cal,
  fun nx jp cal => o_ald 0 (o_get 11 5 (o_invV 94 1 5 (o_if 4 p_le0 nx jp cal) jp cal) jp cal) jp cal,
  fun nx jp cal => o_ald 1 (o_ic 0 (o_putI 8 5 (o_ald 0 (o_ald 0 (o_get 11 5 (o_get 5 10 (o_ald 0 (o_get 11 5 (o_get 5 9 (o_bin f_add (o_ic 0 (o_ald 0 (o_get 11 5 (o_invV 94 1 5 (o_ic 0 (o_invV 13 5 11 (o_go 7 nx jp cal) jp cal) jp cal) jp cal) jp cal) jp cal) jp cal) jp cal) jp cal) jp cal) jp cal) jp cal) jp cal) jp cal) jp cal) jp cal) jp cal) jp cal,
  fun nx jp cal => o_ald 0 (o_get 11 5 (o_get 5 2 (o_if 6 p_eq0 nx jp cal) jp cal) jp cal) jp cal,
  fun nx jp cal => o_ald 1 (o_ic 0 (o_putI 8 5 (o_ald 1 (o_ald 0 (o_get 11 5 (o_get 5 5 (o_invV 118 2 8 (o_pop (o_ald 0 (o_get 11 4 (o_invV 82 1 4 (o_dup (o_get 8 4 (o_ic 1 (o_bin f_add (o_putI 8 4 (o_ald 0 (o_ic 0 (o_ic 1 (o_ic 1 (o_ic 1 (o_invV 13 5 11 (o_go 7 nx jp cal) jp cal) jp cal) jp cal) jp cal) jp cal) jp cal) jp cal) jp cal) jp cal) jp cal) jp cal) jp cal) jp cal) jp cal) jp cal) jp cal) jp cal) jp cal) jp cal) jp cal) jp cal) jp cal) jp cal,
  fun nx jp cal => o_ald 1 (o_dup (o_get 8 5 (o_ic 1 (o_bin f_add (o_putI 8 5 (o_ald 0 (o_ic 0 (o_ic 0 (o_ic 0 (o_ic 1 (o_invV 13 5 11 nx jp cal) jp cal) jp cal) jp cal) jp cal) jp cal) jp cal) jp cal) jp cal) jp cal) jp cal) jp cal,
  o_ret]
noncomputable def k_X11_canTake : List Op := [fun nx jp cal => o_ald 0 (o_get 11 0 (o_ild 1 (o_invV 109 2 6 (o_ic 12 (o_if2 3 p_ge nx jp cal) jp cal) jp cal) jp cal) jp cal) jp cal,
  fun nx jp cal => o_ild 2 (o_ald 0 (o_get 11 1 (o_get 1 0 (o_ild 1 (o_invV 113 2 7 (o_if2 3 p_gt nx jp cal) jp cal) jp cal) jp cal) jp cal) jp cal) jp cal,
  fun nx jp cal => o_ic 1 (o_go 4 nx jp cal) jp cal,
  o_no,
  o_bret 1]
noncomputable def k_X11_card : List Op := [fun nx jp cal => o_ald 0 (o_ild 1 (o_invV 30 2 11 (o_ild 2 (o_ic 103 (o_if2 5 p_eq nx jp cal) jp cal) jp cal) jp cal) jp cal) jp cal,
  fun nx jp cal => o_ild 2 (o_ic 121 (o_if2 5 p_eq nx jp cal) jp cal) jp cal,
  fun nx jp cal => o_ild 2 (o_ic 114 (o_if2 5 p_eq nx jp cal) jp cal) jp cal,
  o_thr 1,
  o_no,
  fun nx jp cal => o_ald 0 (o_invV 29 1 11 (o_ald 0 (o_get 11 4 (o_ild 1 (o_invV 91 2 4 (o_ast 2 (o_ild 2 (o_ic 103 (o_if2 8 p_ne nx jp cal) jp cal) jp cal) jp cal) jp cal) jp cal) jp cal) jp cal) jp cal) jp cal,
  fun nx jp cal => o_ald 0 (o_get 11 4 (o_get 4 2 (o_ild 1 (o_invV 113 2 7 (o_if 8 p_le0 nx jp cal) jp cal) jp cal) jp cal) jp cal) jp cal,
  fun nx jp cal => o_ic 121 (o_go 9 nx jp cal) jp cal,
  o_ild 2,
  fun nx jp cal => o_ist 3 (o_ald 3 (o_get 8 0 (o_get 3 1 (o_ic 1 (o_if2 11 p_ne nx jp cal) jp cal) jp cal) jp cal) jp cal) jp cal,
  o_no,
  fun nx jp cal => o_ic 0 (o_ist 4 (o_ald 3 (o_ild 1 (o_invV 119 2 8 (o_if 14 p_eq0 nx jp cal) jp cal) jp cal) jp cal) jp cal) jp cal,
  fun nx jp cal => o_ild 5 (o_if 16 p_eq0 nx jp cal) jp cal,
  o_no,
  o_thr 3,
  o_no,
  fun nx jp cal => o_ild 4 (o_ic 103 (o_if2 18 p_ne nx jp cal) jp cal) jp cal,
  fun nx jp cal => o_ald 0 (o_get 11 4 (o_get 4 2 (o_ild 1 (o_ic 1 (o_invV 114 3 7 (o_go 22 nx jp cal) jp cal) jp cal) jp cal) jp cal) jp cal) jp cal,
  fun nx jp cal => o_ald 3 (o_ild 1 (o_invV 123 2 8 (o_ald 0 (o_get 11 4 (o_get 4 3 (o_ild 1 (o_ild 4 (o_ic 121 (o_if2 20 p_ne nx jp cal) jp cal) jp cal) jp cal) jp cal) jp cal) jp cal) jp cal) jp cal) jp cal,
  fun nx jp cal => o_ic 4 (o_go 21 nx jp cal) jp cal,
  o_ic 4294967295,
  o_invV 114 3 7,
  fun nx jp cal => o_ild 4 (o_bret 65535 nx jp cal) jp cal]
noncomputable def k_X11_champion : List Op := [fun nx jp cal => o_ald 0 (o_get 11 1 (o_get 1 4 (o_ic 3 (o_if2 3 p_ge nx jp cal) jp cal) jp cal) jp cal) jp cal,
  o_thr 3,
  o_no,
  o_no]
noncomputable def k_X11_checksum : List Op := [fun nx jp cal => o_v (.inr (.inr (.inl 7))) (o_wst false 0 (o_ald 0 (o_get 11 4 (o_get 4 8 (o_if 2 p_ne0 nx jp cal) jp cal) jp cal) jp cal) jp cal) jp cal,
  fun nx jp cal => o_lld 1 (o_go 3 nx jp cal) jp cal,
  o_no,
  o_lret]
noncomputable def k_X11_closeRaid : List Op := [fun nx jp cal => o_ald 0 (o_get 11 4 (o_invV 86 1 4 (o_ast 4 (o_ald 0 (o_get 11 4 (o_invV 82 1 4 (o_ast 5 (o_ald 0 (o_get 11 3 (o_get 2 2 (o_if 2 p_eq0 nx jp cal) jp cal) jp cal) jp cal) jp cal) jp cal) jp cal) jp cal) jp cal) jp cal) jp cal) jp cal,
  fun nx jp cal => o_ald 5 (o_ild 1 (o_invV 122 2 8 (o_ald 6 (o_ild 2 (o_invV 122 2 8 nx jp cal) jp cal) jp cal) jp cal) jp cal) jp cal,
  fun nx jp cal => o_ald 0 (o_get 11 5 (o_ic 0 (o_putZ 5 1 (o_ald 0 (o_get 11 4 (o_dup (o_get 4 7 (o_ic 1 (o_bin f_add (o_putI 4 7 (o_ald 0 (o_invV 17 1 11 (o_ald 0 (o_ald 0 (o_get 11 4 (o_get 4 0 (o_ald 0 (o_get 11 4 (o_get 4 1 (o_invV 1 3 11 (o_ald 0 (o_ald 0 (o_get 11 4 (o_get 4 1 (o_ald 0 (o_get 11 4 (o_get 4 0 (o_invV 1 3 11 (o_bin f_add (o_ist 6 (o_ald 0 (o_get 11 5 (o_ild 7 (o_if 4 p_le0 nx jp cal) jp cal) jp cal) jp cal) jp cal) jp cal) jp cal) jp cal) jp cal) jp cal) jp cal) jp cal) jp cal) jp cal) jp cal) jp cal) jp cal) jp cal) jp cal) jp cal) jp cal) jp cal) jp cal) jp cal) jp cal) jp cal) jp cal) jp cal) jp cal) jp cal) jp cal) jp cal) jp cal) jp cal) jp cal,
  o_no,
  fun nx jp cal => o_ic 0 (o_putZ 5 4 (o_ald 0 (o_get 11 6 (o_ald 0 (o_get 11 5 (o_get 5 5 (o_ild 3 (o_ild 7 (o_bin f_add (o_ild 4 (o_invV 125 4 9 (o_ald 0 (o_get 11 4 (o_get 4 4 (o_if 7 p_eq0 nx jp cal) jp cal) jp cal) jp cal) jp cal) jp cal) jp cal) jp cal) jp cal) jp cal) jp cal) jp cal) jp cal) jp cal) jp cal) jp cal,
  fun nx jp cal => o_ald 0 (o_get 11 4 (o_invV 83 1 4 (o_if 7 p_eq0 nx jp cal) jp cal) jp cal) jp cal,
  fun nx jp cal => o_ald 0 (o_get 11 4 (o_ic 0 (o_putZ 4 4 nx jp cal) jp cal) jp cal) jp cal,
  fun nx jp cal => o_ald 0 (o_get 11 4 (o_get 4 4 (o_if 9 p_ne0 nx jp cal) jp cal) jp cal) jp cal,
  fun nx jp cal => o_ald 0 (o_get 11 1 (o_ald 0 (o_get 11 4 (o_get 4 0 (o_ald 0 (o_get 11 4 (o_get 4 1 (o_invV 66 3 1 nx jp cal) jp cal) jp cal) jp cal) jp cal) jp cal) jp cal) jp cal) jp cal,
  o_ret]
noncomputable def k_X11_comeBack : List Op := [fun nx jp cal => o_ald 0 (o_invV 31 1 11 (o_ald 0 (o_get 11 5 (o_ic 2 (o_invV 96 2 5 (o_if 2 p_ne0 nx jp cal) jp cal) jp cal) jp cal) jp cal) jp cal) jp cal,
  o_no,
  fun nx jp cal => o_ald 0 (o_invV 8 1 11 (o_ald 0 (o_get 11 5 (o_invV 94 1 5 (o_iret nx jp cal) jp cal) jp cal) jp cal) jp cal) jp cal]
noncomputable def k_X11_edition : List Op := [fun nx jp cal => o_ild 1 (o_ic 3 (o_if2 7 p_lt nx jp cal) jp cal) jp cal,
  fun nx jp cal => o_ild 1 (o_ic 7 (o_if2 7 p_gt nx jp cal) jp cal) jp cal,
  fun nx jp cal => o_ild 2 (o_ic 1 (o_if2 7 p_lt nx jp cal) jp cal) jp cal,
  fun nx jp cal => o_ild 2 (o_ic 7 (o_if2 7 p_gt nx jp cal) jp cal) jp cal,
  fun nx jp cal => o_ild 4 (o_ic 2 (o_if2 7 p_lt nx jp cal) jp cal) jp cal,
  fun nx jp cal => o_ild 4 (o_ic 20 (o_if2 7 p_gt nx jp cal) jp cal) jp cal,
  fun nx jp cal => o_ild 4 (o_ic 1 (o_bin f_and (o_if 9 p_eq0 nx jp cal) jp cal) jp cal) jp cal,
  o_thr 1,
  o_no,
  fun nx jp cal => o_ald 0 (o_get 11 4 (o_get 4 4 (o_if 11 p_eq0 nx jp cal) jp cal) jp cal) jp cal,
  o_no,
  fun nx jp cal => o_ald 0 (o_get 11 3 (o_get 2 0 (o_ist 4 (o_ald 0 (o_get 11 3 (o_ild 1 (o_ild 2 (o_ild 3 (o_ild 4 (o_invV 73 5 2 (o_ild 5 (o_iret nx jp cal) jp cal) jp cal) jp cal) jp cal) jp cal) jp cal) jp cal) jp cal) jp cal) jp cal) jp cal) jp cal]
noncomputable def k_X11_emptyShare : List Op := [fun nx jp cal => o_ald 0 (o_get 11 6 (o_get 9 4 (o_if 3 p_ne0 nx jp cal) jp cal) jp cal) jp cal,
  o_thr 5,
  o_no,
  fun nx jp cal => o_ald 0 (o_get 11 6 (o_get 9 5 (o_i2f (o_ald 0 (o_get 11 6 (o_get 9 4 (o_i2f (o_fdiv (o_fret nx jp cal) jp cal) jp cal) jp cal) jp cal) jp cal) jp cal) jp cal) jp cal) jp cal]
noncomputable def k_X11_endSittings : List Op := [fun nx jp cal => o_ic 0 (o_ist 0 nx jp cal) jp cal,
  fun nx jp cal => o_ild 1 (o_ald 0 (o_get 11 0 (o_get 6 7 (o_if2 7 p_ge nx jp cal) jp cal) jp cal) jp cal) jp cal,
  fun nx jp cal => o_ald 0 (o_get 11 4 (o_get 4 3 (o_ild 1 (o_invV 113 2 7 (o_ist 1 (o_ild 2 (o_if 4 p_le0 nx jp cal) jp cal) jp cal) jp cal) jp cal) jp cal) jp cal) jp cal,
  fun nx jp cal => o_ald 0 (o_get 11 4 (o_get 4 3 (o_ild 1 (o_ild 2 (o_ic 1 (o_bin f_sub (o_invV 114 3 7 nx jp cal) jp cal) jp cal) jp cal) jp cal) jp cal) jp cal) jp cal,
  fun nx jp cal => o_ild 2 (o_ic 1 (o_if2 6 p_ne nx jp cal) jp cal) jp cal,
  fun nx jp cal => o_ald 0 (o_get 11 4 (o_ald 0 (o_get 11 0 (o_get 6 4 (o_ild 1 (o_invV 113 2 7 (o_invV 90 2 4 (o_get 8 1 (o_ild 1 (o_invV 75 2 3 nx jp cal) jp cal) jp cal) jp cal) jp cal) jp cal) jp cal) jp cal) jp cal) jp cal) jp cal,
  fun nx jp cal => o_inc 1 1 (o_go 1 nx jp cal) jp cal,
  o_ret]
noncomputable def k_X11_goesOn : List Op := [fun nx jp cal => o_ald 0 (o_get 11 4 (o_get 4 4 (o_bret 1 nx jp cal) jp cal) jp cal) jp cal]
noncomputable def k_X11_isAbility : List Op := [fun nx jp cal => o_ild 0 (o_ic 1 (o_if2 3 p_lt nx jp cal) jp cal) jp cal,
  fun nx jp cal => o_ild 0 (o_ic 9 (o_if2 3 p_gt nx jp cal) jp cal) jp cal,
  fun nx jp cal => o_ic 1 (o_go 4 nx jp cal) jp cal,
  o_ic 0,
  o_bret 1]
noncomputable def k_X11_isEachInOnePlace : List Op := [fun nx jp cal => o_ald 0 (o_get 11 4 (o_get 4 4 (o_if 2 p_ne0 nx jp cal) jp cal) jp cal) jp cal,
  fun nx jp cal => o_ic 1 (o_bret 1 nx jp cal) jp cal,
  fun nx jp cal => o_ic 0 (o_ist 0 nx jp cal) jp cal,
  fun nx jp cal => o_ild 1 (o_ald 0 (o_get 11 0 (o_get 6 7 (o_if2 16 p_ge nx jp cal) jp cal) jp cal) jp cal) jp cal,
  fun nx jp cal => o_ald 0 (o_get 11 0 (o_get 6 4 (o_ild 1 (o_invV 113 2 7 (o_ist 1 (o_ild 2 (o_ald 0 (o_get 11 4 (o_get 4 0 (o_get 8 3 (o_if2 6 p_eq nx jp cal) jp cal) jp cal) jp cal) jp cal) jp cal) jp cal) jp cal) jp cal) jp cal) jp cal) jp cal,
  fun nx jp cal => o_ild 2 (o_ald 0 (o_get 11 4 (o_get 4 1 (o_get 8 3 (o_if2 7 p_ne nx jp cal) jp cal) jp cal) jp cal) jp cal) jp cal,
  fun nx jp cal => o_ic 1 (o_go 8 nx jp cal) jp cal,
  o_no,
  fun nx jp cal => o_ist 2 (o_ald 0 (o_get 11 4 (o_get 4 0 (o_ild 1 (o_invV 121 2 8 (o_ald 0 (o_get 11 4 (o_get 4 1 (o_ild 1 (o_invV 121 2 8 (o_bin f_add (o_ist 3 (o_ald 0 (o_get 11 4 (o_get 4 3 (o_ild 1 (o_invV 113 2 7 (o_if 10 p_eq0 nx jp cal) jp cal) jp cal) jp cal) jp cal) jp cal) jp cal) jp cal) jp cal) jp cal) jp cal) jp cal) jp cal) jp cal) jp cal) jp cal) jp cal) jp cal) jp cal,
  o_inc 4 1,
  fun nx jp cal => o_ild 4 (o_ild 3 (o_if 12 p_eq0 nx jp cal) jp cal) jp cal,
  fun nx jp cal => o_ic 1 (o_go 13 nx jp cal) jp cal,
  o_no,
  o_if2 15 p_eq,
  o_no,
  fun nx jp cal => o_inc 1 1 (o_go 3 nx jp cal) jp cal,
  fun nx jp cal => o_ic 1 (o_bret 1 nx jp cal) jp cal]
noncomputable def k_X11_isEachInOneSquad : List Op := [fun nx jp cal => o_ic 0 (o_ist 0 (o_ic 0 (o_ist 1 nx jp cal) jp cal) jp cal) jp cal,
  fun nx jp cal => o_ild 2 (o_ald 0 (o_get 11 1 (o_get 1 4 (o_if2 5 p_ge nx jp cal) jp cal) jp cal) jp cal) jp cal,
  fun nx jp cal => o_ald 0 (o_get 11 0 (o_ild 2 (o_invV 109 2 6 (o_ic 12 (o_if2 4 p_le nx jp cal) jp cal) jp cal) jp cal) jp cal) jp cal,
  o_no,
  fun nx jp cal => o_ild 1 (o_ald 0 (o_get 11 0 (o_ild 2 (o_invV 109 2 6 (o_bin f_add (o_ist 0 (o_inc 2 1 (o_go 1 nx jp cal) jp cal) jp cal) jp cal) jp cal) jp cal) jp cal) jp cal) jp cal,
  fun nx jp cal => o_ild 1 (o_ald 0 (o_get 11 0 (o_ic 4294967295 (o_invV 109 2 6 (o_bin f_add (o_ald 0 (o_get 11 0 (o_get 6 7 (o_if2 7 p_ne nx jp cal) jp cal) jp cal) jp cal) jp cal) jp cal) jp cal) jp cal) jp cal) jp cal,
  fun nx jp cal => o_ic 1 (o_go 8 nx jp cal) jp cal,
  o_no,
  o_bret 1]
noncomputable def k_X11_isTrue : List Op := [fun nx jp cal => o_ald 0 (o_invV 20 1 11 (o_if 5 p_eq0 nx jp cal) jp cal) jp cal,
  fun nx jp cal => o_ald 0 (o_invV 21 1 11 (o_if 5 p_eq0 nx jp cal) jp cal) jp cal,
  fun nx jp cal => o_ald 0 (o_invV 2 1 11 (o_if 5 p_eq0 nx jp cal) jp cal) jp cal,
  fun nx jp cal => o_ald 0 (o_get 11 7 (o_isb L1_isb L2_isb 0 0 (o_if 5 p_eq0 nx jp cal) jp cal) jp cal) jp cal,
  fun nx jp cal => o_ic 1 (o_go 6 nx jp cal) jp cal,
  o_no,
  o_bret 1]
noncomputable def k_X11_knockDown : List Op := [fun nx jp cal => o_ald 0 (o_get 11 2 (o_invV 61 1 0 (o_if 3 p_ne0 nx jp cal) jp cal) jp cal) jp cal,
  o_thr 2,
  o_no,
  fun nx jp cal => o_ald 0 (o_get 11 2 (o_get 0 1 (o_ist 0 (o_ild 1 (o_ic 4294967295 (o_if2 5 p_eq nx jp cal) jp cal) jp cal) jp cal) jp cal) jp cal) jp cal,
  fun nx jp cal => o_ald 0 (o_ald 0 (o_get 11 2 (o_get 0 0 (o_ild 1 (o_ald 0 (o_get 11 2 (o_get 0 2 (o_invV 48 4 11 nx jp cal) jp cal) jp cal) jp cal) jp cal) jp cal) jp cal) jp cal) jp cal,
  fun nx jp cal => o_ald 0 (o_get 11 2 (o_invV 60 1 0 (o_ild 1 (o_iret nx jp cal) jp cal) jp cal) jp cal) jp cal]
noncomputable def k_X11_league : List Op := [fun nx jp cal => o_ald 0 (o_ild 1 (o_invV 33 2 11 (o_ald 0 (o_get 11 1 (o_get 1 2 (o_ild 1 (o_invV 113 2 7 (o_iret nx jp cal) jp cal) jp cal) jp cal) jp cal) jp cal) jp cal) jp cal) jp cal]
noncomputable def k_X11_lowestBid : List Op := [fun nx jp cal => o_ald 0 (o_get 11 2 (o_get 0 3 (o_if 2 p_ne0 nx jp cal) jp cal) jp cal) jp cal,
  fun nx jp cal => o_ald 0 (o_get 11 0 (o_get 6 3 (o_ald 0 (o_get 11 2 (o_get 0 0 (o_invV 113 2 7 (o_go 3 nx jp cal) jp cal) jp cal) jp cal) jp cal) jp cal) jp cal) jp cal,
  o_no,
  o_iret]
noncomputable def k_X11_matAt : List Op := [fun nx jp cal => o_ald 0 (o_ild 1 (o_invV 38 2 11 (o_get 8 0 (o_ild 2 (o_invV 76 2 3 (o_invS 40 1 (o_iret nx jp cal) jp cal) jp cal) jp cal) jp cal) jp cal) jp cal) jp cal]
noncomputable def k_X11_match : List Op := [fun nx jp cal => o_ald 0 (o_ild 1 (o_invV 33 2 11 (o_no nx jp cal) jp cal) jp cal) jp cal]
noncomputable def k_X11_meanPoints : List Op := [fun nx jp cal => o_ald 0 (o_get 11 6 (o_get 9 4 (o_if 3 p_ne0 nx jp cal) jp cal) jp cal) jp cal,
  o_thr 5,
  o_no,
  fun nx jp cal => o_ald 0 (o_get 11 6 (o_get 9 6 (o_i2d (o_ald 0 (o_get 11 6 (o_get 9 4 (o_i2d (o_dbin (FP.Core.div FP.Core.b64) (o_dret nx jp cal) jp cal) jp cal) jp cal) jp cal) jp cal) jp cal) jp cal) jp cal) jp cal]
noncomputable def k_X11_needPause : List Op := [fun nx jp cal => o_ald 0 (o_get 11 4 (o_get 4 4 (o_if 2 p_eq0 nx jp cal) jp cal) jp cal) jp cal,
  fun nx jp cal => o_ald 0 (o_get 11 5 (o_get 5 1 (o_if 4 p_eq0 nx jp cal) jp cal) jp cal) jp cal,
  o_thr 2,
  o_no,
  o_ret]
noncomputable def k_X11_needPlayer : List Op := [fun nx jp cal => o_ild 1 (o_if 2 p_lt0 nx jp cal) jp cal,
  fun nx jp cal => o_ild 1 (o_ald 0 (o_get 11 0 (o_get 6 7 (o_if2 4 p_lt nx jp cal) jp cal) jp cal) jp cal) jp cal,
  o_thr 0,
  o_no,
  o_ret]
noncomputable def k_X11_needRaid : List Op := [fun nx jp cal => o_ald 0 (o_get 11 5 (o_get 5 1 (o_if 3 p_ne0 nx jp cal) jp cal) jp cal) jp cal,
  o_thr 2,
  o_no,
  o_ret]
noncomputable def k_X11_needSide : List Op := [fun nx jp cal => o_ild 0 (o_if 4 p_eq0 nx jp cal) jp cal,
  fun nx jp cal => o_ild 0 (o_ic 1 (o_if2 4 p_eq nx jp cal) jp cal) jp cal,
  o_thr 1,
  o_no,
  o_ret]
noncomputable def k_X11_needSquad : List Op := [fun nx jp cal => o_ild 1 (o_if 2 p_lt0 nx jp cal) jp cal,
  fun nx jp cal => o_ild 1 (o_ald 0 (o_get 11 1 (o_get 1 4 (o_if2 4 p_lt nx jp cal) jp cal) jp cal) jp cal) jp cal,
  o_thr 0,
  o_no,
  o_ret]
noncomputable def k_X11_onMat : List Op := [fun nx jp cal => o_ald 0 (o_ild 1 (o_invV 38 2 11 (o_get 8 0 (o_get 3 1 (o_iret nx jp cal) jp cal) jp cal) jp cal) jp cal) jp cal]
noncomputable def k_X11_outAt : List Op := [fun nx jp cal => o_ald 0 (o_ild 1 (o_invV 38 2 11 (o_get 8 1 (o_ild 2 (o_invV 76 2 3 (o_invS 40 1 (o_iret nx jp cal) jp cal) jp cal) jp cal) jp cal) jp cal) jp cal) jp cal]
noncomputable def k_X11_placed : List Op := [fun nx jp cal => o_ild 1 (o_if 2 p_lt0 nx jp cal) jp cal,
  fun nx jp cal => o_ild 1 (o_ald 0 (o_get 11 1 (o_get 1 4 (o_if2 4 p_lt nx jp cal) jp cal) jp cal) jp cal) jp cal,
  o_thr 4,
  o_no,
  fun nx jp cal => o_ald 0 (o_get 11 1 (o_ild 1 (o_invV 70 2 1 (o_iret nx jp cal) jp cal) jp cal) jp cal) jp cal]
noncomputable def k_X11_player : List Op := [fun nx jp cal => o_ild 1 (o_invS 19 1 (o_if 4 p_eq0 nx jp cal) jp cal) jp cal,
  fun nx jp cal => o_ild 2 (o_invS 19 1 (o_if 4 p_eq0 nx jp cal) jp cal) jp cal,
  fun nx jp cal => o_ild 3 (o_invS 19 1 (o_if 4 p_eq0 nx jp cal) jp cal) jp cal,
  fun nx jp cal => o_ild 4 (o_invS 3 1 (o_if 6 p_ne0 nx jp cal) jp cal) jp cal,
  o_thr 1,
  o_no,
  fun nx jp cal => o_ald 0 (o_get 11 0 (o_get 6 7 (o_ic 40 (o_if2 8 p_lt nx jp cal) jp cal) jp cal) jp cal) jp cal,
  o_no,
  fun nx jp cal => o_ald 0 (o_get 11 0 (o_ild 1 (o_ild 2 (o_ild 3 (o_ild 4 (o_invS 3 1 (o_invV 106 5 6 (o_iret nx jp cal) jp cal) jp cal) jp cal) jp cal) jp cal) jp cal) jp cal) jp cal]
noncomputable def k_X11_playingSide : List Op := [fun nx jp cal => o_ild 1 (o_invS 32 1 (o_ald 0 (o_get 11 4 (o_get 4 4 (o_if 3 p_ne0 nx jp cal) jp cal) jp cal) jp cal) jp cal) jp cal,
  o_thr 2,
  o_no,
  fun nx jp cal => o_ald 0 (o_get 11 4 (o_ild 1 (o_invV 87 2 4 (o_aret nx jp cal) jp cal) jp cal) jp cal) jp cal]
noncomputable def k_X11_points : List Op := [fun nx jp cal => o_ild 1 (o_invS 32 1 (o_ald 0 (o_get 11 4 (o_ild 1 (o_invV 87 2 4 (o_get 8 4 (o_iret nx jp cal) jp cal) jp cal) jp cal) jp cal) jp cal) jp cal) jp cal]
noncomputable def k_X11_present : List Op := [fun nx jp cal => o_ild 0 (o_ic 4294967295 (o_if2 3 p_ne nx jp cal) jp cal) jp cal,
  o_thr 4,
  o_no,
  fun nx jp cal => o_ild 0 (o_iret nx jp cal) jp cal]
noncomputable def k_X11_purse : List Op := [fun nx jp cal => o_ald 0 (o_ild 1 (o_invV 33 2 11 (o_ald 0 (o_get 11 1 (o_get 1 0 (o_ild 1 (o_invV 113 2 7 (o_iret nx jp cal) jp cal) jp cal) jp cal) jp cal) jp cal) jp cal) jp cal) jp cal]
noncomputable def k_X11_putRight : List Op := [fun nx jp cal => o_ald 0 (o_get 11 4 (o_invV 84 1 4 (o_ast 1 (o_ald 0 (o_get 11 5 (o_ild 1 (o_invV 97 2 5 (o_if 2 p_eq0 nx jp cal) jp cal) jp cal) jp cal) jp cal) jp cal) jp cal) jp cal) jp cal,
  fun nx jp cal => o_ald 2 (o_ild 1 (o_invV 117 2 8 (o_ald 0 (o_get 11 4 (o_invV 85 1 4 (o_dup (o_get 8 4 (o_ic 1 (o_bin f_sub (o_putI 8 4 (o_go 3 nx jp cal) jp cal) jp cal) jp cal) jp cal) jp cal) jp cal) jp cal) jp cal) jp cal) jp cal) jp cal,
  fun nx jp cal => o_ald 2 (o_ild 1 (o_invV 118 2 8 (o_pop (o_ald 0 (o_get 11 4 (o_invV 85 1 4 (o_dup (o_get 8 4 (o_ic 1 (o_bin f_add (o_putI 8 4 nx jp cal) jp cal) jp cal) jp cal) jp cal) jp cal) jp cal) jp cal) jp cal) jp cal) jp cal) jp cal,
  o_ret]
noncomputable def k_X11_putUp : List Op := [fun nx jp cal => o_ald 0 (o_ild 1 (o_invV 30 2 11 (o_ald 0 (o_get 11 0 (o_get 6 4 (o_ild 1 (o_invV 113 2 7 (o_ic 4294967295 (o_if2 2 p_ne nx jp cal) jp cal) jp cal) jp cal) jp cal) jp cal) jp cal) jp cal) jp cal) jp cal,
  fun nx jp cal => o_ald 0 (o_get 11 4 (o_get 4 4 (o_if 4 p_eq0 nx jp cal) jp cal) jp cal) jp cal,
  o_thr 3,
  o_no,
  fun nx jp cal => o_ald 0 (o_get 11 2 (o_invV 61 1 0 (o_if 6 p_eq0 nx jp cal) jp cal) jp cal) jp cal,
  o_no,
  fun nx jp cal => o_ald 0 (o_get 11 2 (o_ild 1 (o_invV 62 2 0 (o_ald 0 (o_get 11 0 (o_get 6 3 (o_ild 1 (o_invV 113 2 7 (o_iret nx jp cal) jp cal) jp cal) jp cal) jp cal) jp cal) jp cal) jp cal) jp cal) jp cal]
noncomputable def k_X11_raid : List Op := [fun nx jp cal => o_ald 0 (o_ild 1 (o_invV 30 2 11 (o_ald 0 (o_invV 29 1 11 (o_ald 0 (o_get 11 4 (o_invV 86 1 4 (o_get 8 0 (o_ild 1 (o_invV 78 2 3 (o_if 2 p_ne0 nx jp cal) jp cal) jp cal) jp cal) jp cal) jp cal) jp cal) jp cal) jp cal) jp cal) jp cal) jp cal,
  o_no,
  fun nx jp cal => o_ald 0 (o_get 11 5 (o_ild 1 (o_ald 0 (o_get 11 4 (o_invV 82 1 4 (o_get 8 0 (o_get 3 1 (o_ald 0 (o_get 11 4 (o_invV 86 1 4 (o_get 8 5 (o_ic 2 (o_if2 4 p_ne nx jp cal) jp cal) jp cal) jp cal) jp cal) jp cal) jp cal) jp cal) jp cal) jp cal) jp cal) jp cal) jp cal) jp cal,
  fun nx jp cal => o_ic 1 (o_go 5 nx jp cal) jp cal,
  o_ic 0,
  fun nx jp cal => o_invV 104 4 5 (o_ald 0 (o_get 11 5 (o_get 5 2 (o_bret 1 nx jp cal) jp cal) jp cal) jp cal) jp cal]
noncomputable def k_X11_raids : List Op := [fun nx jp cal => o_ald 0 (o_get 11 4 (o_get 4 7 (o_iret nx jp cal) jp cal) jp cal) jp cal]
noncomputable def k_X11_review : List Op := [fun nx jp cal => o_ald 0 (o_ild 2 (o_invV 30 2 11 (o_ild 1 (o_invS 32 1 (o_ald 0 (o_invV 29 1 11 (o_ald 0 (o_get 11 5 (o_get 5 3 (o_if 2 p_eq0 nx jp cal) jp cal) jp cal) jp cal) jp cal) jp cal) jp cal) jp cal) jp cal) jp cal) jp cal,
  fun nx jp cal => o_ald 0 (o_get 11 5 (o_get 5 4 (o_if 4 p_eq0 nx jp cal) jp cal) jp cal) jp cal,
  o_thr 2,
  o_no,
  fun nx jp cal => o_ald 0 (o_get 11 4 (o_ild 1 (o_invV 87 2 4 (o_get 8 7 (o_if 7 p_eq0 nx jp cal) jp cal) jp cal) jp cal) jp cal) jp cal,
  fun nx jp cal => o_ald 0 (o_get 11 5 (o_ild 2 (o_invV 98 2 5 (o_if 7 p_eq0 nx jp cal) jp cal) jp cal) jp cal) jp cal,
  fun nx jp cal => o_ald 0 (o_ild 2 (o_invV 58 2 11 (o_if 9 p_eq0 nx jp cal) jp cal) jp cal) jp cal,
  o_thr 3,
  o_no,
  fun nx jp cal => o_ald 0 (o_get 11 5 (o_ild 2 (o_invV 101 2 5 (o_ald 0 (o_get 11 5 (o_ild 2 (o_invV 100 2 5 (o_if 11 p_ne0 nx jp cal) jp cal) jp cal) jp cal) jp cal) jp cal) jp cal) jp cal) jp cal,
  fun nx jp cal => o_ald 0 (o_get 11 4 (o_ild 1 (o_invV 87 2 4 (o_ic 0 (o_putZ 8 7 (o_ic 0 (o_bret 1 nx jp cal) jp cal) jp cal) jp cal) jp cal) jp cal) jp cal) jp cal,
  fun nx jp cal => o_ald 0 (o_ild 2 (o_invV 42 2 11 (o_ic 1 (o_bret 1 nx jp cal) jp cal) jp cal) jp cal) jp cal]
noncomputable def k_X11_season : List Op := [fun nx jp cal => o_ald 0 (o_get 11 4 (o_get 4 4 (o_if 2 p_ne0 nx jp cal) jp cal) jp cal) jp cal,
  fun nx jp cal => o_ald 0 (o_get 11 2 (o_invV 61 1 0 (o_if 4 p_eq0 nx jp cal) jp cal) jp cal) jp cal,
  o_thr 2,
  o_no,
  fun nx jp cal => o_ald 0 (o_get 11 1 (o_invV 71 1 1 (o_ald 0 (o_get 11 0 (o_invV 108 1 6 (o_iret nx jp cal) jp cal) jp cal) jp cal) jp cal) jp cal) jp cal]
noncomputable def k_X11_sell : List Op := [fun nx jp cal => o_ald 0 (o_get 11 0 (o_get 6 4 (o_ild 1 (o_ild 2 (o_invV 114 3 7 (o_ald 0 (o_get 11 0 (o_get 6 6 (o_ild 1 (o_ild 3 (o_invV 114 3 7 (o_ald 0 (o_get 11 1 (o_get 1 0 (o_ild 2 (o_ild 3 (o_un f_neg (o_invV 111 3 7 (o_ret nx jp cal) jp cal) jp cal) jp cal) jp cal) jp cal) jp cal) jp cal) jp cal) jp cal) jp cal) jp cal) jp cal) jp cal) jp cal) jp cal) jp cal) jp cal) jp cal) jp cal]
noncomputable def k_X11_squad : List Op := [fun nx jp cal => o_ald 0 (o_get 11 1 (o_get 1 4 (o_ic 4 (o_if2 2 p_lt nx jp cal) jp cal) jp cal) jp cal) jp cal,
  o_no,
  fun nx jp cal => o_ald 0 (o_get 11 1 (o_invV 65 1 1 (o_iret nx jp cal) jp cal) jp cal) jp cal]
noncomputable def k_X11_squadOf : List Op := [fun nx jp cal => o_ald 0 (o_ild 1 (o_invV 30 2 11 (o_ald 0 (o_get 11 0 (o_get 6 4 (o_ild 1 (o_invV 113 2 7 (o_iret nx jp cal) jp cal) jp cal) jp cal) jp cal) jp cal) jp cal) jp cal) jp cal]
noncomputable def k_X11_stepOut : List Op := [fun nx jp cal => o_ald 0 (o_ild 1 (o_invV 30 2 11 (o_no nx jp cal) jp cal) jp cal) jp cal]
noncomputable def k_X11_struggle : List Op := [fun nx jp cal => o_ald 0 (o_invV 31 1 11 (o_no nx jp cal) jp cal) jp cal]
noncomputable def k_X11_substitute : List Op := [fun nx jp cal => o_ald 0 (o_ild 1 (o_invV 30 2 11 (o_ald 0 (o_ild 2 (o_invV 30 2 11 (o_ald 0 (o_invV 29 1 11 (o_ald 0 (o_get 11 4 (o_ild 1 (o_invV 91 2 4 (o_ast 2 (o_ald 3 (o_get 8 0 (o_ild 1 (o_invV 78 2 3 (o_if 3 p_eq0 nx jp cal) jp cal) jp cal) jp cal) jp cal) jp cal) jp cal) jp cal) jp cal) jp cal) jp cal) jp cal) jp cal) jp cal) jp cal) jp cal) jp cal) jp cal,
  fun nx jp cal => o_ald 3 (o_get 8 2 (o_ild 2 (o_invV 78 2 3 (o_if 3 p_eq0 nx jp cal) jp cal) jp cal) jp cal) jp cal,
  fun nx jp cal => o_ald 3 (o_get 8 6 (o_ic 5 (o_if2 5 p_lt nx jp cal) jp cal) jp cal) jp cal,
  o_thr 3,
  o_no,
  fun nx jp cal => o_ald 3 (o_ild 1 (o_ild 2 (o_invV 116 3 8 (o_ald 3 (o_get 8 6 (o_iret nx jp cal) jp cal) jp cal) jp cal) jp cal) jp cal) jp cal]
noncomputable def k_X11_takeTouched : List Op := [fun nx jp cal => o_ic 0 (o_ist 2 nx jp cal) jp cal,
  fun nx jp cal => o_ild 3 (o_ald 0 (o_get 11 0 (o_get 6 7 (o_if2 6 p_ge nx jp cal) jp cal) jp cal) jp cal) jp cal,
  fun nx jp cal => o_ald 0 (o_get 11 5 (o_ild 3 (o_invV 97 2 5 (o_if 5 p_eq0 nx jp cal) jp cal) jp cal) jp cal) jp cal,
  fun nx jp cal => o_ald 2 (o_ild 3 (o_invV 118 2 8 (o_if 5 p_eq0 nx jp cal) jp cal) jp cal) jp cal,
  fun nx jp cal => o_ald 0 (o_get 11 5 (o_dup (o_get 5 10 (o_ic 1 (o_bin f_add (o_putI 5 10 nx jp cal) jp cal) jp cal) jp cal) jp cal) jp cal) jp cal,
  fun nx jp cal => o_inc 3 1 (o_go 1 nx jp cal) jp cal,
  fun nx jp cal => o_ald 1 (o_dup (o_get 8 4 (o_ald 0 (o_get 11 5 (o_get 5 10 (o_bin f_add (o_putI 8 4 (o_ald 0 (o_get 11 6 (o_get 9 0 (o_ald 0 (o_get 11 5 (o_get 5 5 (o_ald 0 (o_get 11 5 (o_get 5 10 (o_invV 111 3 7 (o_ret nx jp cal) jp cal) jp cal) jp cal) jp cal) jp cal) jp cal) jp cal) jp cal) jp cal) jp cal) jp cal) jp cal) jp cal) jp cal) jp cal) jp cal) jp cal) jp cal]
noncomputable def k_X11_told : List Op := [fun nx jp cal => o_ald 0 (o_ild 1 (o_invV 30 2 11 (o_ild 2 (o_ic 114 (o_if2 2 p_ne nx jp cal) jp cal) jp cal) jp cal) jp cal) jp cal,
  fun nx jp cal => o_ald 0 (o_get 11 6 (o_get 9 0 (o_ild 1 (o_invV 113 2 7 (o_iret nx jp cal) jp cal) jp cal) jp cal) jp cal) jp cal,
  fun nx jp cal => o_ild 2 (o_ic 116 (o_if2 4 p_ne nx jp cal) jp cal) jp cal,
  fun nx jp cal => o_ald 0 (o_get 11 6 (o_get 9 1 (o_ild 1 (o_invV 113 2 7 (o_iret nx jp cal) jp cal) jp cal) jp cal) jp cal) jp cal,
  fun nx jp cal => o_ild 2 (o_ic 115 (o_if2 6 p_ne nx jp cal) jp cal) jp cal,
  fun nx jp cal => o_ald 0 (o_get 11 6 (o_get 9 2 (o_ild 1 (o_invV 113 2 7 (o_iret nx jp cal) jp cal) jp cal) jp cal) jp cal) jp cal,
  fun nx jp cal => o_ild 2 (o_ic 110 (o_if2 8 p_ne nx jp cal) jp cal) jp cal,
  fun nx jp cal => o_ald 0 (o_get 11 6 (o_get 9 3 (o_ild 1 (o_invV 113 2 7 (o_iret nx jp cal) jp cal) jp cal) jp cal) jp cal) jp cal,
  o_no]
noncomputable def k_X11_touch : List Op := [fun nx jp cal => o_ald 0 (o_ild 1 (o_invV 30 2 11 (o_ald 0 (o_invV 31 1 11 (o_ald 0 (o_get 11 4 (o_invV 82 1 4 (o_get 8 0 (o_ild 1 (o_invV 78 2 3 (o_if 2 p_eq0 nx jp cal) jp cal) jp cal) jp cal) jp cal) jp cal) jp cal) jp cal) jp cal) jp cal) jp cal) jp cal,
  fun nx jp cal => o_ald 0 (o_get 11 5 (o_ild 1 (o_invV 99 2 5 (o_if 4 p_eq0 nx jp cal) jp cal) jp cal) jp cal) jp cal,
  o_thr 3,
  o_no,
  fun nx jp cal => o_ald 0 (o_get 11 0 (o_get 6 1 (o_ald 0 (o_get 11 5 (o_get 5 5 (o_invV 113 2 7 (o_ic 7 (o_if2 6 p_lt nx jp cal) jp cal) jp cal) jp cal) jp cal) jp cal) jp cal) jp cal) jp cal,
  fun nx jp cal => o_ic 2 (o_go 7 nx jp cal) jp cal,
  o_no,
  fun nx jp cal => o_ist 3 (o_ald 0 (o_get 11 5 (o_ild 4 (o_invV 96 2 5 (o_if 9 p_ne0 nx jp cal) jp cal) jp cal) jp cal) jp cal) jp cal,
  o_no,
  fun nx jp cal => o_ald 0 (o_get 11 5 (o_ild 1 (o_ild 2 (o_ild 3 (o_invV 102 4 5 (o_ald 0 (o_get 11 5 (o_ild 4 (o_invV 103 2 5 (o_iret nx jp cal) jp cal) jp cal) jp cal) jp cal) jp cal) jp cal) jp cal) jp cal) jp cal) jp cal]
noncomputable def k_X11_turn : List Op := [fun nx jp cal => o_ald 0 (o_get 11 4 (o_get 4 4 (o_if 3 p_ne0 nx jp cal) jp cal) jp cal) jp cal,
  o_thr 2,
  o_no,
  fun nx jp cal => o_ald 0 (o_get 11 4 (o_invV 88 1 4 (o_iret nx jp cal) jp cal) jp cal) jp cal]
noncomputable def k_X11_wouldEmptyMat : List Op := [fun nx jp cal => o_ald 0 (o_get 11 4 (o_invV 84 1 4 (o_ast 1 (o_ald 0 (o_get 11 5 (o_ild 1 (o_invV 100 2 5 (o_if 4 p_eq0 nx jp cal) jp cal) jp cal) jp cal) jp cal) jp cal) jp cal) jp cal) jp cal,
  fun nx jp cal => o_ald 0 (o_get 11 5 (o_ild 1 (o_invV 97 2 5 (o_if 4 p_ne0 nx jp cal) jp cal) jp cal) jp cal) jp cal,
  fun nx jp cal => o_ald 2 (o_get 8 0 (o_get 3 1 (o_ic 1 (o_if2 4 p_ne nx jp cal) jp cal) jp cal) jp cal) jp cal,
  o_no,
  fun nx jp cal => o_ic 0 (o_bret 1 nx jp cal) jp cal]
noncomputable def k_X0_init : List Op := [fun nx jp cal => o_ald 0 (o_oinit (o_ald 0 (o_ic 4294967295 (o_putI 0 0 (o_ald 0 (o_ic 4294967295 (o_putI 0 1 (o_ret nx jp cal) jp cal) jp cal) jp cal) jp cal) jp cal) jp cal) jp cal) jp cal]
noncomputable def k_X0_close : List Op := [fun nx jp cal => o_ald 0 (o_ic 4294967295 (o_invV 62 2 0 (o_ret nx jp cal) jp cal) jp cal) jp cal]
noncomputable def k_X0_isOpen : List Op := [fun nx jp cal => o_ald 0 (o_get 0 0 (o_ic 4294967295 (o_if2 2 p_eq nx jp cal) jp cal) jp cal) jp cal,
  fun nx jp cal => o_ic 1 (o_go 3 nx jp cal) jp cal,
  o_ic 0,
  o_bret 1]
noncomputable def k_X0_open : List Op := [fun nx jp cal => o_ald 0 (o_ild 1 (o_putI 0 0 (o_ald 0 (o_ic 4294967295 (o_putI 0 1 (o_ald 0 (o_ic 0 (o_putI 0 2 (o_ald 0 (o_ic 0 (o_putI 0 3 (o_ret nx jp cal) jp cal) jp cal) jp cal) jp cal) jp cal) jp cal) jp cal) jp cal) jp cal) jp cal) jp cal) jp cal]
noncomputable def k_X0_take : List Op := [fun nx jp cal => o_ald 0 (o_ild 1 (o_putI 0 1 (o_ald 0 (o_ild 2 (o_putI 0 2 (o_ald 0 (o_dup (o_get 0 3 (o_ic 1 (o_bin f_add (o_putI 0 3 (o_ret nx jp cal) jp cal) jp cal) jp cal) jp cal) jp cal) jp cal) jp cal) jp cal) jp cal) jp cal) jp cal) jp cal]
noncomputable def k_X1_init : List Op := [fun nx jp cal => o_ald 0 (o_oinit (o_ald 0 (o_new 7 1 [.inr (.inl 0)] (o_dup (o_ic 4 (o_invI 110 2 (o_putR 1 0 (o_ald 0 (o_new 7 1 [.inr (.inl 0)] (o_dup (o_ic 4 (o_invI 110 2 (o_putR 1 1 (o_ald 0 (o_new 7 1 [.inr (.inl 0)] (o_dup (o_ic 4 (o_invI 110 2 (o_putR 1 2 (o_ald 0 (o_new 7 1 [.inr (.inl 0)] (o_dup (o_ic 4 (o_invI 110 2 (o_putR 1 3 (o_ret nx jp cal) jp cal) jp cal) jp cal) jp cal) jp cal) jp cal) jp cal) jp cal) jp cal) jp cal) jp cal) jp cal) jp cal) jp cal) jp cal) jp cal) jp cal) jp cal) jp cal) jp cal) jp cal) jp cal) jp cal) jp cal) jp cal) jp cal]
noncomputable def k_X1_enter : List Op := [fun nx jp cal => o_ald 0 (o_get 1 4 (o_ist 0 (o_ald 0 (o_get 1 0 (o_ild 1 (o_ic 200 (o_invV 114 3 7 (o_ald 0 (o_dup (o_get 1 4 (o_ic 1 (o_bin f_add (o_putI 1 4 (o_ild 1 (o_iret nx jp cal) jp cal) jp cal) jp cal) jp cal) jp cal) jp cal) jp cal) jp cal) jp cal) jp cal) jp cal) jp cal) jp cal) jp cal) jp cal]
noncomputable def k_X1_enterResult : List Op := [fun nx jp cal => o_ald 0 (o_ald 1 (o_get 8 3 (o_ald 1 (o_get 8 4 (o_ald 2 (o_get 8 4 (o_bin f_sub (o_invV 67 3 1 (o_ald 0 (o_ald 2 (o_get 8 3 (o_ald 2 (o_get 8 4 (o_ald 1 (o_get 8 4 (o_bin f_sub (o_invV 67 3 1 (o_ret nx jp cal) jp cal) jp cal) jp cal) jp cal) jp cal) jp cal) jp cal) jp cal) jp cal) jp cal) jp cal) jp cal) jp cal) jp cal) jp cal) jp cal) jp cal) jp cal]
noncomputable def k_X1_enterResultOf : List Op := [fun nx jp cal => o_ald 0 (o_get 1 3 (o_ild 1 (o_ild 2 (o_invV 111 3 7 (o_ild 2 (o_if 2 p_le0 nx jp cal) jp cal) jp cal) jp cal) jp cal) jp cal) jp cal,
  o_no,
  fun nx jp cal => o_ild 2 (o_if 4 p_ne0 nx jp cal) jp cal,
  fun nx jp cal => o_ald 0 (o_get 1 2 (o_ild 1 (o_ic 3 (o_invV 111 3 7 (o_go 5 nx jp cal) jp cal) jp cal) jp cal) jp cal) jp cal,
  o_no,
  o_ret]
noncomputable def k_X1_isBetter : List Op := [fun nx jp cal => o_ald 0 (o_get 1 2 (o_ild 1 (o_invV 113 2 7 (o_ald 0 (o_get 1 2 (o_ild 2 (o_invV 113 2 7 (o_if2 2 p_eq nx jp cal) jp cal) jp cal) jp cal) jp cal) jp cal) jp cal) jp cal) jp cal,
  o_no,
  fun nx jp cal => o_ald 0 (o_get 1 3 (o_ild 1 (o_invV 113 2 7 (o_ald 0 (o_get 1 3 (o_ild 2 (o_invV 113 2 7 (o_if2 4 p_eq nx jp cal) jp cal) jp cal) jp cal) jp cal) jp cal) jp cal) jp cal) jp cal,
  o_no,
  fun nx jp cal => o_ild 1 (o_ild 2 (o_if2 6 p_ge nx jp cal) jp cal) jp cal,
  o_no,
  fun nx jp cal => o_ic 0 (o_bret 1 nx jp cal) jp cal]
noncomputable def k_X1_placeOf : List Op := [fun nx jp cal => o_ic 0 (o_ist 1 (o_ic 0 (o_ist 2 nx jp cal) jp cal) jp cal) jp cal,
  fun nx jp cal => o_ild 3 (o_ald 0 (o_get 1 4 (o_if2 5 p_ge nx jp cal) jp cal) jp cal) jp cal,
  fun nx jp cal => o_ald 0 (o_ild 3 (o_ild 1 (o_invV 68 3 1 (o_if 4 p_eq0 nx jp cal) jp cal) jp cal) jp cal) jp cal,
  o_no,
  fun nx jp cal => o_inc 3 1 (o_go 1 nx jp cal) jp cal,
  fun nx jp cal => o_ild 2 (o_iret nx jp cal) jp cal]
noncomputable def k_X1_squadAt : List Op := [fun nx jp cal => o_ic 0 (o_ist 1 (o_ild 2 (o_ald 0 (o_get 1 4 (o_if2 4 p_ge nx jp cal) jp cal) jp cal) jp cal) jp cal) jp cal,
  fun nx jp cal => o_ald 0 (o_ild 2 (o_invV 69 2 1 (o_ild 1 (o_if2 3 p_ne nx jp cal) jp cal) jp cal) jp cal) jp cal,
  fun nx jp cal => o_ild 2 (o_iret nx jp cal) jp cal,
  o_no,
  o_no]
noncomputable def k_X1_startAnew : List Op := [fun nx jp cal => o_ald 0 (o_get 1 0 (o_ic 200 (o_invV 112 2 7 (o_ald 0 (o_get 1 2 (o_ic 0 (o_invV 112 2 7 (o_ald 0 (o_get 1 3 (o_ic 0 (o_invV 112 2 7 (o_ret nx jp cal) jp cal) jp cal) jp cal) jp cal) jp cal) jp cal) jp cal) jp cal) jp cal) jp cal) jp cal) jp cal]
noncomputable def k_X2_init : List Op := [fun nx jp cal => o_ald 0 (o_oinit (o_ald 0 (o_ic 7 (o_putI 2 0 (o_ald 0 (o_ic 6 (o_putI 2 1 (o_ald 0 (o_ic 1 (o_putZ 2 2 (o_ald 0 (o_ic 10 (o_putI 2 3 (o_ret nx jp cal) jp cal) jp cal) jp cal) jp cal) jp cal) jp cal) jp cal) jp cal) jp cal) jp cal) jp cal) jp cal) jp cal) jp cal]
noncomputable def k_X2_change : List Op := [fun nx jp cal => o_ald 0 (o_ild 1 (o_putI 2 0 (o_ald 0 (o_ild 2 (o_putI 2 1 (o_ald 0 (o_ild 3 (o_putZ 2 2 (o_ald 0 (o_ild 4 (o_putI 2 3 (o_ret nx jp cal) jp cal) jp cal) jp cal) jp cal) jp cal) jp cal) jp cal) jp cal) jp cal) jp cal) jp cal) jp cal]
noncomputable def k_X3_init : List Op := [fun nx jp cal => o_ald 0 (o_oinit (o_ald 0 (o_ic 12 (o_newI (o_putR 3 0 (o_ret nx jp cal) jp cal) jp cal) jp cal) jp cal) jp cal) jp cal]
noncomputable def k_X3_append : List Op := [fun nx jp cal => o_ald 0 (o_get 3 1 (o_if 3 p_lt0 nx jp cal) jp cal) jp cal,
  fun nx jp cal => o_ald 0 (o_get 3 1 (o_ald 0 (o_get 3 0 (o_alen (o_if2 3 p_ge nx jp cal) jp cal) jp cal) jp cal) jp cal) jp cal,
  fun nx jp cal => o_ald 0 (o_get 3 0 (o_ald 0 (o_get 3 1 (o_ild 1 (o_iast (o_ald 0 (o_dup (o_get 3 1 (o_ic 1 (o_bin f_add (o_putI 3 1 nx jp cal) jp cal) jp cal) jp cal) jp cal) jp cal) jp cal) jp cal) jp cal) jp cal) jp cal) jp cal,
  o_ret]
noncomputable def k_X3_at : List Op := [fun nx jp cal => o_ild 1 (o_if 4 p_lt0 nx jp cal) jp cal,
  fun nx jp cal => o_ild 1 (o_ald 0 (o_get 3 1 (o_if2 4 p_ge nx jp cal) jp cal) jp cal) jp cal,
  fun nx jp cal => o_ild 1 (o_ald 0 (o_get 3 0 (o_alen (o_if2 4 p_ge nx jp cal) jp cal) jp cal) jp cal) jp cal,
  fun nx jp cal => o_ald 0 (o_get 3 0 (o_ild 1 (o_iald (o_go 5 nx jp cal) jp cal) jp cal) jp cal) jp cal,
  o_ic 4294967295,
  o_iret]
noncomputable def k_X3_clear : List Op := [fun nx jp cal => o_ald 0 (o_ic 0 (o_putI 3 1 (o_ret nx jp cal) jp cal) jp cal) jp cal]
noncomputable def k_X3_has : List Op := [fun nx jp cal => o_ic 0 (o_ist 1 nx jp cal) jp cal,
  fun nx jp cal => o_ild 2 (o_ald 0 (o_get 3 1 (o_if2 5 p_ge nx jp cal) jp cal) jp cal) jp cal,
  fun nx jp cal => o_ald 0 (o_ild 2 (o_invV 76 2 3 (o_ild 1 (o_if2 4 p_ne nx jp cal) jp cal) jp cal) jp cal) jp cal,
  fun nx jp cal => o_ic 1 (o_bret 1 nx jp cal) jp cal,
  fun nx jp cal => o_inc 2 1 (o_go 1 nx jp cal) jp cal,
  fun nx jp cal => o_ic 0 (o_bret 1 nx jp cal) jp cal]
noncomputable def k_X3_insertByNumber : List Op := [fun nx jp cal => o_ald 0 (o_get 3 1 (o_if 2 p_lt0 nx jp cal) jp cal) jp cal,
  fun nx jp cal => o_ald 0 (o_get 3 1 (o_ald 0 (o_get 3 0 (o_alen (o_if2 3 p_lt nx jp cal) jp cal) jp cal) jp cal) jp cal) jp cal,
  o_no,
  fun nx jp cal => o_ald 0 (o_get 3 1 (o_ist 1 (o_ald 0 (o_get 3 1 (o_ic 1 (o_bin f_sub (o_ist 2 nx jp cal) jp cal) jp cal) jp cal) jp cal) jp cal) jp cal) jp cal,
  fun nx jp cal => o_ild 3 (o_if 8 p_lt0 nx jp cal) jp cal,
  fun nx jp cal => o_ild 3 (o_ic 1 (o_bin f_add (o_ald 0 (o_get 3 0 (o_alen (o_if2 8 p_ge nx jp cal) jp cal) jp cal) jp cal) jp cal) jp cal) jp cal,
  fun nx jp cal => o_ald 0 (o_get 3 0 (o_ild 3 (o_iald (o_ild 1 (o_if2 8 p_le nx jp cal) jp cal) jp cal) jp cal) jp cal) jp cal,
  fun nx jp cal => o_ald 0 (o_get 3 0 (o_ild 3 (o_ic 1 (o_bin f_add (o_ald 0 (o_get 3 0 (o_ild 3 (o_iald (o_iast (o_ild 3 (o_ist 1 (o_inc 3 4294967295 (o_go 4 nx jp cal) jp cal) jp cal) jp cal) jp cal) jp cal) jp cal) jp cal) jp cal) jp cal) jp cal) jp cal) jp cal) jp cal,
  fun nx jp cal => o_ald 0 (o_get 3 0 (o_ild 2 (o_ild 1 (o_iast (o_ald 0 (o_dup (o_get 3 1 (o_ic 1 (o_bin f_add (o_putI 3 1 (o_ret nx jp cal) jp cal) jp cal) jp cal) jp cal) jp cal) jp cal) jp cal) jp cal) jp cal) jp cal) jp cal]
noncomputable def k_X3_remove : List Op := [fun nx jp cal => o_ic 0 (o_ist 1 (o_ic 0 (o_ist 2 nx jp cal) jp cal) jp cal) jp cal,
  fun nx jp cal => o_ild 3 (o_ald 0 (o_get 3 1 (o_if2 6 p_ge nx jp cal) jp cal) jp cal) jp cal,
  fun nx jp cal => o_ild 3 (o_ald 0 (o_get 3 0 (o_alen (o_if2 6 p_ge nx jp cal) jp cal) jp cal) jp cal) jp cal,
  fun nx jp cal => o_ald 0 (o_get 3 0 (o_ild 3 (o_iald (o_ild 1 (o_if2 5 p_eq nx jp cal) jp cal) jp cal) jp cal) jp cal) jp cal,
  fun nx jp cal => o_ald 0 (o_get 3 0 (o_ild 2 (o_ald 0 (o_get 3 0 (o_ild 3 (o_iald (o_iast (o_inc 2 1 nx jp cal) jp cal) jp cal) jp cal) jp cal) jp cal) jp cal) jp cal) jp cal,
  fun nx jp cal => o_inc 3 1 (o_go 1 nx jp cal) jp cal,
  fun nx jp cal => o_ild 2 (o_ald 0 (o_get 3 1 (o_if2 8 p_ge nx jp cal) jp cal) jp cal) jp cal,
  fun nx jp cal => o_ic 1 (o_go 9 nx jp cal) jp cal,
  o_ic 0,
  fun nx jp cal => o_ist 2 (o_ald 0 (o_ild 2 (o_putI 3 1 (o_ild 3 (o_bret 1 nx jp cal) jp cal) jp cal) jp cal) jp cal) jp cal]
noncomputable def k_X4_init : List Op := [fun nx jp cal => o_ald 0 (o_oinit (o_ald 0 (o_new 8 8 [.inr (.inl 0), .inr (.inl 0), .inr (.inl 0), .inl 0, .inl 0, .inl 0, .inl 0, .inl 0] (o_dup (o_invI 115 1 (o_putR 4 0 (o_ald 0 (o_new 8 8 [.inr (.inl 0), .inr (.inl 0), .inr (.inl 0), .inl 0, .inl 0, .inl 0, .inl 0, .inl 0] (o_dup (o_invI 115 1 (o_putR 4 1 (o_ald 0 (o_new 7 1 [.inr (.inl 0)] (o_dup (o_ic 40 (o_invI 110 2 (o_putR 4 2 (o_ald 0 (o_new 7 1 [.inr (.inl 0)] (o_dup (o_ic 40 (o_invI 110 2 (o_putR 4 3 (o_ret nx jp cal) jp cal) jp cal) jp cal) jp cal) jp cal) jp cal) jp cal) jp cal) jp cal) jp cal) jp cal) jp cal) jp cal) jp cal) jp cal) jp cal) jp cal) jp cal) jp cal) jp cal) jp cal) jp cal) jp cal) jp cal]
noncomputable def k_X4_defenders : List Op := [fun nx jp cal => o_ald 0 (o_ic 1 (o_ald 0 (o_ald 0 (o_get 4 7 (o_invV 89 2 4 (o_bin f_sub (o_invV 87 2 4 (o_aret nx jp cal) jp cal) jp cal) jp cal) jp cal) jp cal) jp cal) jp cal) jp cal]
noncomputable def k_X4_isDecided : List Op := [fun nx jp cal => o_ald 0 (o_get 4 7 (o_ic 2 (o_ald 0 (o_get 4 6 (o_bin f_mul (o_if2 2 p_ge nx jp cal) jp cal) jp cal) jp cal) jp cal) jp cal) jp cal,
  fun nx jp cal => o_ic 0 (o_bret 1 nx jp cal) jp cal,
  fun nx jp cal => o_ald 0 (o_get 4 7 (o_ic 2 (o_ald 0 (o_get 4 6 (o_bin f_mul (o_if2 5 p_ne nx jp cal) jp cal) jp cal) jp cal) jp cal) jp cal) jp cal,
  fun nx jp cal => o_ald 0 (o_get 4 5 (o_if 5 p_ne0 nx jp cal) jp cal) jp cal,
  fun nx jp cal => o_ic 1 (o_bret 1 nx jp cal) jp cal,
  o_no]
noncomputable def k_X4_lastDefenders : List Op := [fun nx jp cal => o_ald 0 (o_ic 1 (o_ald 0 (o_ald 0 (o_get 4 7 (o_ic 1 (o_bin f_sub (o_invV 89 2 4 (o_bin f_sub (o_invV 87 2 4 (o_aret nx jp cal) jp cal) jp cal) jp cal) jp cal) jp cal) jp cal) jp cal) jp cal) jp cal) jp cal]
noncomputable def k_X4_lastRaiders : List Op := [fun nx jp cal => o_ald 0 (o_ald 0 (o_ald 0 (o_get 4 7 (o_ic 1 (o_bin f_sub (o_invV 89 2 4 (o_invV 87 2 4 (o_aret nx jp cal) jp cal) jp cal) jp cal) jp cal) jp cal) jp cal) jp cal) jp cal]
noncomputable def k_X4_raiders : List Op := [fun nx jp cal => o_ald 0 (o_ald 0 (o_ald 0 (o_get 4 7 (o_invV 89 2 4 (o_invV 87 2 4 (o_aret nx jp cal) jp cal) jp cal) jp cal) jp cal) jp cal) jp cal]
noncomputable def k_X4_sideAt : List Op := [fun nx jp cal => o_ild 1 (o_if 2 p_ne0 nx jp cal) jp cal,
  fun nx jp cal => o_ald 0 (o_get 4 0 (o_go 3 nx jp cal) jp cal) jp cal,
  fun nx jp cal => o_ald 0 (o_get 4 1 nx jp cal) jp cal,
  o_aret]
noncomputable def k_X4_sideInTurn : List Op := [fun nx jp cal => o_ald 0 (o_ald 0 (o_get 4 7 (o_invV 89 2 4 (o_iret nx jp cal) jp cal) jp cal) jp cal) jp cal]
noncomputable def k_X4_sideOfRaid : List Op := [fun nx jp cal => o_ild 1 (o_ald 0 (o_get 4 6 (o_if2 3 p_lt nx jp cal) jp cal) jp cal) jp cal,
  fun nx jp cal => o_ild 1 (o_ic 2 (o_ald 0 (o_get 4 6 (o_bin f_mul (o_if2 3 p_ge nx jp cal) jp cal) jp cal) jp cal) jp cal) jp cal,
  fun nx jp cal => o_ic 1 (o_go 4 nx jp cal) jp cal,
  o_ic 0,
  fun nx jp cal => o_ist 1 (o_ild 2 (o_if 6 p_eq0 nx jp cal) jp cal) jp cal,
  fun nx jp cal => o_ic 1 (o_ild 1 (o_ic 1 (o_bin f_and (o_bin f_sub (o_go 7 nx jp cal) jp cal) jp cal) jp cal) jp cal) jp cal,
  fun nx jp cal => o_ild 1 (o_ic 1 (o_bin f_and nx jp cal) jp cal) jp cal,
  o_iret]
noncomputable def k_X4_sideOfSquad : List Op := [fun nx jp cal => o_ild 1 (o_ald 0 (o_get 4 0 (o_get 8 3 (o_if2 2 p_ne nx jp cal) jp cal) jp cal) jp cal) jp cal,
  fun nx jp cal => o_ald 0 (o_get 4 0 (o_go 3 nx jp cal) jp cal) jp cal,
  fun nx jp cal => o_ald 0 (o_get 4 1 nx jp cal) jp cal,
  o_aret]
noncomputable def k_X4_sideWith : List Op := [fun nx jp cal => o_ald 0 (o_get 4 0 (o_ild 1 (o_invV 119 2 8 (o_if 2 p_eq0 nx jp cal) jp cal) jp cal) jp cal) jp cal,
  fun nx jp cal => o_ald 0 (o_get 4 0 (o_go 3 nx jp cal) jp cal) jp cal,
  fun nx jp cal => o_ald 0 (o_get 4 1 nx jp cal) jp cal,
  o_aret]
noncomputable def k_X4_start : List Op := [fun nx jp cal => o_ald 0 (o_get 4 2 (o_ic 0 (o_invV 112 2 7 (o_ald 0 (o_get 4 3 (o_ic 0 (o_invV 112 2 7 (o_ald 0 (o_ic 1 (o_putZ 4 4 (o_ald 0 (o_ild 1 (o_putZ 4 5 (o_ald 0 (o_ild 2 (o_putI 4 6 (o_ald 0 (o_ic 0 (o_putI 4 7 (o_ald 0 (o_dup (o_get 4 8 (o_ic 1 (o_bin f_add (o_putI 4 8 (o_ret nx jp cal) jp cal) jp cal) jp cal) jp cal) jp cal) jp cal) jp cal) jp cal) jp cal) jp cal) jp cal) jp cal) jp cal) jp cal) jp cal) jp cal) jp cal) jp cal) jp cal) jp cal) jp cal) jp cal) jp cal) jp cal) jp cal) jp cal]
noncomputable def k_X5_init : List Op := [fun nx jp cal => o_ald 0 (o_oinit (o_ald 0 (o_new 7 1 [.inr (.inl 0)] (o_dup (o_ic 40 (o_invI 110 2 (o_putR 5 0 (o_ald 0 (o_ic 4294967295 (o_putI 5 5 (o_ret nx jp cal) jp cal) jp cal) jp cal) jp cal) jp cal) jp cal) jp cal) jp cal) jp cal) jp cal) jp cal]
noncomputable def k_X5_brought : List Op := [fun nx jp cal => o_ald 0 (o_get 5 10 (o_ald 0 (o_get 5 8 (o_bin f_add (o_ald 0 (o_get 5 9 (o_bin f_add (o_iret nx jp cal) jp cal) jp cal) jp cal) jp cal) jp cal) jp cal) jp cal) jp cal]
noncomputable def k_X5_forget : List Op := [fun nx jp cal => o_ald 0 (o_ic 4294967295 (o_ic 0 (o_ic 0 (o_invV 104 4 5 (o_ald 0 (o_ic 0 (o_putZ 5 1 (o_ret nx jp cal) jp cal) jp cal) jp cal) jp cal) jp cal) jp cal) jp cal) jp cal]
noncomputable def k_X5_hasBreathFor : List Op := [fun nx jp cal => o_ald 0 (o_get 5 7 (o_ild 1 (o_bin f_add (o_ic 30 (o_if2 2 p_gt nx jp cal) jp cal) jp cal) jp cal) jp cal) jp cal,
  fun nx jp cal => o_ic 1 (o_go 3 nx jp cal) jp cal,
  o_no,
  o_bret 1]
noncomputable def k_X5_isCalled : List Op := [fun nx jp cal => o_ald 0 (o_get 5 0 (o_ild 1 (o_invV 113 2 7 (o_ic 4 (o_bin f_and (o_if 2 p_eq0 nx jp cal) jp cal) jp cal) jp cal) jp cal) jp cal) jp cal,
  fun nx jp cal => o_ic 1 (o_go 3 nx jp cal) jp cal,
  o_ic 0,
  o_bret 1]
noncomputable def k_X5_isReviewable : List Op := [fun nx jp cal => o_ald 0 (o_get 5 0 (o_ild 1 (o_invV 113 2 7 (o_ic 9 (o_bin f_and (o_ic 1 (o_if2 2 p_ne nx jp cal) jp cal) jp cal) jp cal) jp cal) jp cal) jp cal) jp cal,
  fun nx jp cal => o_ic 1 (o_go 3 nx jp cal) jp cal,
  o_ic 0,
  o_bret 1]
noncomputable def k_X5_isTouched : List Op := [fun nx jp cal => o_ald 0 (o_get 5 0 (o_ild 1 (o_invV 113 2 7 (o_if 2 p_eq0 nx jp cal) jp cal) jp cal) jp cal) jp cal,
  fun nx jp cal => o_ic 1 (o_go 3 nx jp cal) jp cal,
  o_ic 0,
  o_bret 1]
noncomputable def k_X5_isWrong : List Op := [fun nx jp cal => o_ald 0 (o_get 5 0 (o_ild 1 (o_invV 113 2 7 (o_ic 2 (o_bin f_and (o_if 2 p_eq0 nx jp cal) jp cal) jp cal) jp cal) jp cal) jp cal) jp cal,
  fun nx jp cal => o_ic 1 (o_go 3 nx jp cal) jp cal,
  o_ic 0,
  fun nx jp cal => o_ist 1 (o_ild 2 (o_ald 0 (o_ild 1 (o_invV 97 2 5 (o_if2 5 p_eq nx jp cal) jp cal) jp cal) jp cal) jp cal) jp cal,
  fun nx jp cal => o_ic 1 (o_go 6 nx jp cal) jp cal,
  o_ic 0,
  o_bret 1]
noncomputable def k_X5_markReviewed : List Op := [fun nx jp cal => o_ald 0 (o_get 5 0 (o_ild 1 (o_ald 0 (o_get 5 0 (o_ild 1 (o_invV 113 2 7 (o_ic 8 (o_bin f_or (o_invV 114 3 7 (o_ret nx jp cal) jp cal) jp cal) jp cal) jp cal) jp cal) jp cal) jp cal) jp cal) jp cal) jp cal]
noncomputable def k_X5_markTold : List Op := [fun nx jp cal => o_ald 0 (o_get 5 0 (o_ild 1 (o_ic 1 (o_ild 2 (o_if 2 p_eq0 nx jp cal) jp cal) jp cal) jp cal) jp cal) jp cal,
  fun nx jp cal => o_ic 2 (o_go 3 nx jp cal) jp cal,
  o_ic 0,
  fun nx jp cal => o_bin f_or (o_ild 3 (o_if 5 p_eq0 nx jp cal) jp cal) jp cal,
  fun nx jp cal => o_ic 4 (o_go 6 nx jp cal) jp cal,
  o_ic 0,
  fun nx jp cal => o_bin f_or (o_invV 114 3 7 (o_ret nx jp cal) jp cal) jp cal]
noncomputable def k_X5_spend : List Op := [fun nx jp cal => o_ald 0 (o_dup (o_get 5 7 (o_ild 1 (o_bin f_add (o_putI 5 7 (o_ald 0 (o_get 5 7 (o_iret nx jp cal) jp cal) jp cal) jp cal) jp cal) jp cal) jp cal) jp cal) jp cal]
noncomputable def k_X5_start : List Op := [fun nx jp cal => o_ald 0 (o_get 5 0 (o_ic 0 (o_invV 112 2 7 (o_ald 0 (o_ic 1 (o_putZ 5 1 (o_ald 0 (o_ild 3 (o_putZ 5 2 (o_ald 0 (o_ic 0 (o_putZ 5 3 (o_ald 0 (o_ic 0 (o_putZ 5 4 (o_ald 0 (o_ild 1 (o_putI 5 5 (o_ald 0 (o_ild 2 (o_putI 5 6 (o_ald 0 (o_ic 0 (o_putI 5 7 (o_ald 0 (o_ic 0 (o_putI 5 8 (o_ald 0 (o_ic 0 (o_putI 5 9 (o_ald 0 (o_ic 0 (o_putI 5 10 (o_ret nx jp cal) jp cal) jp cal) jp cal) jp cal) jp cal) jp cal) jp cal) jp cal) jp cal) jp cal) jp cal) jp cal) jp cal) jp cal) jp cal) jp cal) jp cal) jp cal) jp cal) jp cal) jp cal) jp cal) jp cal) jp cal) jp cal) jp cal) jp cal) jp cal) jp cal) jp cal) jp cal) jp cal) jp cal) jp cal]
noncomputable def k_X6_init : List Op := [fun nx jp cal => o_ald 0 (o_oinit (o_ald 0 (o_new 7 1 [.inr (.inl 0)] (o_dup (o_ic 40 (o_invI 110 2 (o_putR 6 0 (o_ald 0 (o_new 7 1 [.inr (.inl 0)] (o_dup (o_ic 40 (o_invI 110 2 (o_putR 6 1 (o_ald 0 (o_new 7 1 [.inr (.inl 0)] (o_dup (o_ic 40 (o_invI 110 2 (o_putR 6 2 (o_ald 0 (o_new 7 1 [.inr (.inl 0)] (o_dup (o_ic 40 (o_invI 110 2 (o_putR 6 3 (o_ald 0 (o_new 7 1 [.inr (.inl 0)] (o_dup (o_ic 40 (o_invI 110 2 (o_putR 6 4 (o_ald 0 (o_new 7 1 [.inr (.inl 0)] (o_dup (o_ic 40 (o_invI 110 2 (o_putR 6 5 (o_ald 0 (o_new 7 1 [.inr (.inl 0)] (o_dup (o_ic 40 (o_invI 110 2 (o_putR 6 6 (o_ret nx jp cal) jp cal) jp cal) jp cal) jp cal) jp cal) jp cal) jp cal) jp cal) jp cal) jp cal) jp cal) jp cal) jp cal) jp cal) jp cal) jp cal) jp cal) jp cal) jp cal) jp cal) jp cal) jp cal) jp cal) jp cal) jp cal) jp cal) jp cal) jp cal) jp cal) jp cal) jp cal) jp cal) jp cal) jp cal) jp cal) jp cal) jp cal) jp cal) jp cal) jp cal) jp cal) jp cal) jp cal) jp cal]
noncomputable def k_X6_enter : List Op := [fun nx jp cal => o_ald 0 (o_get 6 7 (o_ist 4 (o_ald 0 (o_get 6 0 (o_ild 5 (o_ild 1 (o_invV 114 3 7 (o_ald 0 (o_get 6 1 (o_ild 5 (o_ild 2 (o_invV 114 3 7 (o_ald 0 (o_get 6 2 (o_ild 5 (o_ild 3 (o_invV 114 3 7 (o_ald 0 (o_get 6 3 (o_ild 5 (o_ild 4 (o_invV 114 3 7 (o_ald 0 (o_get 6 4 (o_ild 5 (o_ic 4294967295 (o_invV 114 3 7 (o_ald 0 (o_get 6 5 (o_ild 5 (o_ic 4294967295 (o_invV 114 3 7 (o_ald 0 (o_dup (o_get 6 7 (o_ic 1 (o_bin f_add (o_putI 6 7 (o_ild 5 (o_iret nx jp cal) jp cal) jp cal) jp cal) jp cal) jp cal) jp cal) jp cal) jp cal) jp cal) jp cal) jp cal) jp cal) jp cal) jp cal) jp cal) jp cal) jp cal) jp cal) jp cal) jp cal) jp cal) jp cal) jp cal) jp cal) jp cal) jp cal) jp cal) jp cal) jp cal) jp cal) jp cal) jp cal) jp cal) jp cal) jp cal) jp cal) jp cal) jp cal) jp cal) jp cal]
noncomputable def k_X6_paidBy : List Op := [fun nx jp cal => o_ic 0 (o_ist 1 (o_ic 0 (o_ist 2 nx jp cal) jp cal) jp cal) jp cal,
  fun nx jp cal => o_ild 3 (o_ald 0 (o_get 6 7 (o_if2 5 p_ge nx jp cal) jp cal) jp cal) jp cal,
  fun nx jp cal => o_ald 0 (o_get 6 4 (o_ild 3 (o_invV 113 2 7 (o_ild 1 (o_if2 4 p_ne nx jp cal) jp cal) jp cal) jp cal) jp cal) jp cal,
  fun nx jp cal => o_ild 2 (o_ald 0 (o_get 6 6 (o_ild 3 (o_invV 113 2 7 (o_bin f_add (o_ist 1 nx jp cal) jp cal) jp cal) jp cal) jp cal) jp cal) jp cal,
  fun nx jp cal => o_inc 3 1 (o_go 1 nx jp cal) jp cal,
  fun nx jp cal => o_ild 2 (o_iret nx jp cal) jp cal]
noncomputable def k_X6_release : List Op := [fun nx jp cal => o_ic 0 (o_ist 0 (o_ic 0 (o_ist 1 nx jp cal) jp cal) jp cal) jp cal,
  fun nx jp cal => o_ild 2 (o_ald 0 (o_get 6 7 (o_if2 5 p_ge nx jp cal) jp cal) jp cal) jp cal,
  fun nx jp cal => o_ald 0 (o_get 6 4 (o_ild 2 (o_invV 113 2 7 (o_ist 2 (o_ild 3 (o_ic 4294967295 (o_if2 4 p_eq nx jp cal) jp cal) jp cal) jp cal) jp cal) jp cal) jp cal) jp cal,
  fun nx jp cal => o_ald 0 (o_get 6 5 (o_ild 2 (o_ild 3 (o_invV 114 3 7 (o_ald 0 (o_get 6 4 (o_ild 2 (o_ic 4294967295 (o_invV 114 3 7 (o_ald 0 (o_get 6 6 (o_ild 2 (o_ic 0 (o_invV 114 3 7 (o_inc 1 1 nx jp cal) jp cal) jp cal) jp cal) jp cal) jp cal) jp cal) jp cal) jp cal) jp cal) jp cal) jp cal) jp cal) jp cal) jp cal) jp cal,
  fun nx jp cal => o_inc 2 1 (o_go 1 nx jp cal) jp cal,
  fun nx jp cal => o_ild 1 (o_iret nx jp cal) jp cal]
noncomputable def k_X6_sizeOf : List Op := [fun nx jp cal => o_ic 0 (o_ist 1 (o_ic 0 (o_ist 2 nx jp cal) jp cal) jp cal) jp cal,
  fun nx jp cal => o_ild 3 (o_ald 0 (o_get 6 7 (o_if2 5 p_ge nx jp cal) jp cal) jp cal) jp cal,
  fun nx jp cal => o_ald 0 (o_get 6 4 (o_ild 3 (o_invV 113 2 7 (o_ild 1 (o_if2 4 p_ne nx jp cal) jp cal) jp cal) jp cal) jp cal) jp cal,
  o_inc 2 1,
  fun nx jp cal => o_inc 3 1 (o_go 1 nx jp cal) jp cal,
  fun nx jp cal => o_ild 2 (o_iret nx jp cal) jp cal]
noncomputable def k_X7_init : List Op := [fun nx jp cal => o_ald 0 (o_oinit (o_ald 0 (o_ild 1 (o_if 2 p_le0 nx jp cal) jp cal) jp cal) jp cal) jp cal,
  fun nx jp cal => o_ild 1 (o_go 3 nx jp cal) jp cal,
  o_no,
  fun nx jp cal => o_newI (o_putR 7 0 (o_ret nx jp cal) jp cal) jp cal]
noncomputable def k_X7_add : List Op := [fun nx jp cal => o_ald 0 (o_ild 1 (o_ald 0 (o_ild 1 (o_invV 113 2 7 (o_ild 2 (o_bin f_add (o_invV 114 3 7 (o_ret nx jp cal) jp cal) jp cal) jp cal) jp cal) jp cal) jp cal) jp cal) jp cal]
noncomputable def k_X7_fill : List Op := [fun nx jp cal => o_ic 0 (o_ist 1 nx jp cal) jp cal,
  fun nx jp cal => o_ild 2 (o_ald 0 (o_get 7 0 (o_alen (o_if2 3 p_ge nx jp cal) jp cal) jp cal) jp cal) jp cal,
  fun nx jp cal => o_ald 0 (o_get 7 0 (o_ild 2 (o_ild 1 (o_iast (o_inc 2 1 (o_go 1 nx jp cal) jp cal) jp cal) jp cal) jp cal) jp cal) jp cal,
  o_ret]
noncomputable def k_X7_get : List Op := [fun nx jp cal => o_ild 1 (o_if 3 p_lt0 nx jp cal) jp cal,
  fun nx jp cal => o_ild 1 (o_ald 0 (o_get 7 0 (o_alen (o_if2 3 p_ge nx jp cal) jp cal) jp cal) jp cal) jp cal,
  fun nx jp cal => o_ald 0 (o_get 7 0 (o_ild 1 (o_iald (o_go 4 nx jp cal) jp cal) jp cal) jp cal) jp cal,
  o_no,
  o_iret]
noncomputable def k_X7_set : List Op := [fun nx jp cal => o_ild 1 (o_if 3 p_lt0 nx jp cal) jp cal,
  fun nx jp cal => o_ild 1 (o_ald 0 (o_get 7 0 (o_alen (o_if2 3 p_ge nx jp cal) jp cal) jp cal) jp cal) jp cal,
  fun nx jp cal => o_ald 0 (o_get 7 0 (o_ild 1 (o_ild 2 (o_iast nx jp cal) jp cal) jp cal) jp cal) jp cal,
  o_ret]
noncomputable def k_X8_init : List Op := [fun nx jp cal => o_ald 0 (o_oinit (o_ald 0 (o_new 3 2 [.inr (.inl 0), .inl 0] (o_dup (o_invI 74 1 (o_putR 8 0 (o_ald 0 (o_new 3 2 [.inr (.inl 0), .inl 0] (o_dup (o_invI 74 1 (o_putR 8 1 (o_ald 0 (o_new 3 2 [.inr (.inl 0), .inl 0] (o_dup (o_invI 74 1 (o_putR 8 2 (o_ald 0 (o_ic 4294967295 (o_putI 8 3 (o_ret nx jp cal) jp cal) jp cal) jp cal) jp cal) jp cal) jp cal) jp cal) jp cal) jp cal) jp cal) jp cal) jp cal) jp cal) jp cal) jp cal) jp cal) jp cal) jp cal) jp cal) jp cal]
noncomputable def k_X8_change : List Op := [fun nx jp cal => o_ald 0 (o_get 8 0 (o_ild 1 (o_invV 80 2 3 (o_pop (o_ald 0 (o_get 8 2 (o_ild 2 (o_invV 80 2 3 (o_pop (o_ald 0 (o_get 8 0 (o_ild 2 (o_invV 79 2 3 (o_ald 0 (o_get 8 2 (o_ild 1 (o_invV 75 2 3 (o_ald 0 (o_dup (o_get 8 6 (o_ic 1 (o_bin f_add (o_putI 8 6 (o_ret nx jp cal) jp cal) jp cal) jp cal) jp cal) jp cal) jp cal) jp cal) jp cal) jp cal) jp cal) jp cal) jp cal) jp cal) jp cal) jp cal) jp cal) jp cal) jp cal) jp cal) jp cal) jp cal) jp cal) jp cal) jp cal]
noncomputable def k_X8_comeOn : List Op := [fun nx jp cal => o_ald 0 (o_get 8 1 (o_ild 1 (o_invV 80 2 3 (o_if 2 p_eq0 nx jp cal) jp cal) jp cal) jp cal) jp cal,
  fun nx jp cal => o_ald 0 (o_get 8 0 (o_ild 1 (o_invV 79 2 3 nx jp cal) jp cal) jp cal) jp cal,
  o_ret]
noncomputable def k_X8_goOut : List Op := [fun nx jp cal => o_ald 0 (o_get 8 0 (o_ild 1 (o_invV 80 2 3 (o_ist 1 (o_ild 2 (o_if 2 p_eq0 nx jp cal) jp cal) jp cal) jp cal) jp cal) jp cal) jp cal,
  fun nx jp cal => o_ald 0 (o_get 8 1 (o_ild 1 (o_invV 75 2 3 nx jp cal) jp cal) jp cal) jp cal,
  fun nx jp cal => o_ild 2 (o_bret 1 nx jp cal) jp cal]
noncomputable def k_X8_isInPlay : List Op := [fun nx jp cal => o_ald 0 (o_get 8 0 (o_ild 1 (o_invV 78 2 3 (o_if 2 p_ne0 nx jp cal) jp cal) jp cal) jp cal) jp cal,
  fun nx jp cal => o_ald 0 (o_get 8 1 (o_ild 1 (o_invV 78 2 3 (o_if 3 p_eq0 nx jp cal) jp cal) jp cal) jp cal) jp cal,
  fun nx jp cal => o_ic 1 (o_go 4 nx jp cal) jp cal,
  o_ic 0,
  o_bret 1]
noncomputable def k_X8_lineUp : List Op := [fun nx jp cal => o_ald 0 (o_ild 2 (o_putI 8 3 (o_ald 0 (o_ic 0 (o_putI 8 4 (o_ald 0 (o_ic 0 (o_putI 8 5 (o_ald 0 (o_ic 0 (o_putI 8 6 (o_ald 0 (o_ic 1 (o_putZ 8 7 (o_ald 0 (o_get 8 0 (o_invV 77 1 3 (o_ald 0 (o_get 8 1 (o_invV 77 1 3 (o_ald 0 (o_get 8 2 (o_invV 77 1 3 (o_ic 0 (o_ist 3 nx jp cal) jp cal) jp cal) jp cal) jp cal) jp cal) jp cal) jp cal) jp cal) jp cal) jp cal) jp cal) jp cal) jp cal) jp cal) jp cal) jp cal) jp cal) jp cal) jp cal) jp cal) jp cal) jp cal) jp cal) jp cal) jp cal,
  fun nx jp cal => o_ild 4 (o_ald 1 (o_get 6 7 (o_if2 7 p_ge nx jp cal) jp cal) jp cal) jp cal,
  fun nx jp cal => o_ald 1 (o_get 6 4 (o_ild 4 (o_invV 113 2 7 (o_ald 0 (o_get 8 3 (o_if2 6 p_ne nx jp cal) jp cal) jp cal) jp cal) jp cal) jp cal) jp cal,
  fun nx jp cal => o_ald 0 (o_get 8 0 (o_get 3 1 (o_ild 3 (o_if2 5 p_ge nx jp cal) jp cal) jp cal) jp cal) jp cal,
  fun nx jp cal => o_ald 0 (o_get 8 0 (o_ild 4 (o_invV 75 2 3 (o_go 6 nx jp cal) jp cal) jp cal) jp cal) jp cal,
  fun nx jp cal => o_ald 0 (o_get 8 2 (o_ild 4 (o_invV 75 2 3 nx jp cal) jp cal) jp cal) jp cal,
  fun nx jp cal => o_inc 4 1 (o_go 1 nx jp cal) jp cal,
  o_ret]
noncomputable def k_X8_placesOf : List Op := [fun nx jp cal => o_ald 0 (o_get 8 0 (o_ild 1 (o_invV 78 2 3 (o_if 2 p_eq0 nx jp cal) jp cal) jp cal) jp cal) jp cal,
  fun nx jp cal => o_ic 1 (o_go 3 nx jp cal) jp cal,
  o_ic 0,
  fun nx jp cal => o_ist 1 (o_ald 0 (o_get 8 1 (o_ild 1 (o_invV 78 2 3 (o_if 5 p_eq0 nx jp cal) jp cal) jp cal) jp cal) jp cal) jp cal,
  o_inc 2 1,
  fun nx jp cal => o_ald 0 (o_get 8 2 (o_ild 1 (o_invV 78 2 3 (o_if 7 p_eq0 nx jp cal) jp cal) jp cal) jp cal) jp cal,
  fun nx jp cal => o_ild 2 (o_ic 1 (o_bin f_add (o_go 8 nx jp cal) jp cal) jp cal) jp cal,
  o_ild 2,
  o_iret]
noncomputable def k_X8_revive : List Op := [fun nx jp cal => o_ic 0 (o_ist 1 nx jp cal) jp cal,
  fun nx jp cal => o_ild 2 (o_ild 1 (o_if2 4 p_ge nx jp cal) jp cal) jp cal,
  fun nx jp cal => o_ald 0 (o_get 8 1 (o_get 3 1 (o_if 4 p_le0 nx jp cal) jp cal) jp cal) jp cal,
  fun nx jp cal => o_ald 0 (o_ald 0 (o_get 8 1 (o_ic 0 (o_invV 76 2 3 (o_invV 117 2 8 (o_inc 2 1 (o_go 1 nx jp cal) jp cal) jp cal) jp cal) jp cal) jp cal) jp cal) jp cal,
  o_ret]
noncomputable def k_X8_sendOff : List Op := [fun nx jp cal => o_ald 0 (o_get 8 0 (o_ild 1 (o_invV 80 2 3 (o_pop (o_ald 0 (o_get 8 1 (o_ild 1 (o_invV 80 2 3 (o_pop (o_ret nx jp cal) jp cal) jp cal) jp cal) jp cal) jp cal) jp cal) jp cal) jp cal) jp cal) jp cal]
noncomputable def k_X9_init : List Op := [fun nx jp cal => o_ald 0 (o_oinit (o_ald 0 (o_new 7 1 [.inr (.inl 0)] (o_dup (o_ic 40 (o_invI 110 2 (o_putR 9 0 (o_ald 0 (o_new 7 1 [.inr (.inl 0)] (o_dup (o_ic 40 (o_invI 110 2 (o_putR 9 1 (o_ald 0 (o_new 7 1 [.inr (.inl 0)] (o_dup (o_ic 40 (o_invI 110 2 (o_putR 9 2 (o_ald 0 (o_new 7 1 [.inr (.inl 0)] (o_dup (o_ic 40 (o_invI 110 2 (o_putR 9 3 (o_ret nx jp cal) jp cal) jp cal) jp cal) jp cal) jp cal) jp cal) jp cal) jp cal) jp cal) jp cal) jp cal) jp cal) jp cal) jp cal) jp cal) jp cal) jp cal) jp cal) jp cal) jp cal) jp cal) jp cal) jp cal) jp cal) jp cal) jp cal]
noncomputable def k_X9_record : List Op := [fun nx jp cal => o_ald 0 (o_get 9 3 (o_ild 1 (o_ic 1 (o_invV 111 3 7 (o_ald 0 (o_dup (o_get 9 4 (o_ic 1 (o_bin f_add (o_putI 9 4 (o_ald 0 (o_dup (o_get 9 6 (o_ild 2 (o_bin f_add (o_putI 9 6 (o_ild 3 (o_if 2 p_eq0 nx jp cal) jp cal) jp cal) jp cal) jp cal) jp cal) jp cal) jp cal) jp cal) jp cal) jp cal) jp cal) jp cal) jp cal) jp cal) jp cal) jp cal) jp cal) jp cal,
  fun nx jp cal => o_ald 0 (o_dup (o_get 9 5 (o_ic 1 (o_bin f_add (o_putI 9 5 nx jp cal) jp cal) jp cal) jp cal) jp cal) jp cal,
  o_ret]
noncomputable def k_X10_init : List Op := [fun nx jp cal => o_ald 0 (o_oinit (o_ald 0 (o_ic 441 (o_newD (o_putR 10 0 (o_ald 0 (o_ic 441 (o_newD (o_putR 10 1 (o_ald 0 (o_ic 7 (o_putI 10 2 (o_ald 0 (o_ic 7 (o_putI 10 3 (o_ald 0 (o_ic 50 (o_putI 10 6 (o_ald 0 (o_ic 30 (o_putI 10 7 (o_ret nx jp cal) jp cal) jp cal) jp cal) jp cal) jp cal) jp cal) jp cal) jp cal) jp cal) jp cal) jp cal) jp cal) jp cal) jp cal) jp cal) jp cal) jp cal) jp cal) jp cal) jp cal) jp cal) jp cal]
noncomputable def k_L_ask : List Op := [fun nx jp cal => o_ild 1 (o_sw 66 [4, 37, 47, 10, 47, 14, 47, 47, 47, 6, 46, 5, 9, 47, 1, 47, 23, 2, 17, 3, 40, 47, 36, 47, 39, 47, 47, 47, 47, 47, 47, 20, 22, 38, 44, 47, 47, 47, 47, 18, 47, 47, 45, 19, 34, 7, 8, 47, 47, 35, 27, 21] nx jp cal) jp cal,
  fun nx jp cal => o_ald 0 (o_ald 2 (o_ic 0 (o_iald (o_ald 2 (o_ic 1 (o_iald (o_ald 2 (o_ic 2 (o_iald (o_ald 2 (o_ic 3 (o_iald (o_un f_char (o_invX 37 5 11 [(0, 48), (1, 49), (2, 50), (3, 51), (4, 52)] (o_iret nx jp cal) jp cal) jp cal) jp cal) jp cal) jp cal) jp cal) jp cal) jp cal) jp cal) jp cal) jp cal) jp cal) jp cal) jp cal) jp cal,
  fun nx jp cal => o_ald 0 (o_invX 49 1 11 [(0, 48), (1, 49), (2, 50), (3, 51), (4, 52)] (o_iret nx jp cal) jp cal) jp cal,
  fun nx jp cal => o_ald 0 (o_ald 2 (o_ic 0 (o_iald (o_invX 43 2 11 [(0, 48), (1, 49), (2, 50), (3, 51), (4, 52)] (o_iret nx jp cal) jp cal) jp cal) jp cal) jp cal) jp cal,
  fun nx jp cal => o_ald 0 (o_ald 2 (o_ic 0 (o_iald (o_ald 2 (o_ic 1 (o_iald (o_invX 6 3 11 [(0, 48), (1, 49), (2, 50), (3, 51), (4, 52)] (o_iret nx jp cal) jp cal) jp cal) jp cal) jp cal) jp cal) jp cal) jp cal) jp cal,
  fun nx jp cal => o_ald 0 (o_ald 2 (o_ic 0 (o_iald (o_invX 27 2 11 [(0, 48), (1, 49), (2, 50), (3, 51), (4, 52)] (o_no nx jp cal) jp cal) jp cal) jp cal) jp cal) jp cal,
  fun nx jp cal => o_ald 0 (o_invX 23 1 11 [(0, 48), (1, 49), (2, 50), (3, 51), (4, 52)] (o_iret nx jp cal) jp cal) jp cal,
  fun nx jp cal => o_ald 0 (o_ald 2 (o_ic 0 (o_iald (o_invX 50 2 11 [(0, 48), (1, 49), (2, 50), (3, 51), (4, 52)] (o_iret nx jp cal) jp cal) jp cal) jp cal) jp cal) jp cal,
  fun nx jp cal => o_ald 0 (o_ald 2 (o_ic 0 (o_iald (o_invX 41 2 11 [(0, 48), (1, 49), (2, 50), (3, 51), (4, 52)] (o_iret nx jp cal) jp cal) jp cal) jp cal) jp cal) jp cal,
  fun nx jp cal => o_ald 0 (o_invX 47 1 11 [(0, 48), (1, 49), (2, 50), (3, 51), (4, 52)] (o_iret nx jp cal) jp cal) jp cal,
  fun nx jp cal => o_ald 0 (o_ald 2 (o_ic 0 (o_iald (o_ald 2 (o_ic 1 (o_iald (o_ald 2 (o_ic 2 (o_iald (o_ic 1 (o_if2 12 p_ne nx jp cal) jp cal) jp cal) jp cal) jp cal) jp cal) jp cal) jp cal) jp cal) jp cal) jp cal) jp cal,
  fun nx jp cal => o_ic 1 (o_go 13 nx jp cal) jp cal,
  o_no,
  fun nx jp cal => o_ald 2 (o_ic 3 (o_iald (o_invX 15 5 11 [(0, 48), (1, 49), (2, 50), (3, 51), (4, 52)] (o_iret nx jp cal) jp cal) jp cal) jp cal) jp cal,
  fun nx jp cal => o_ald 0 (o_ald 2 (o_ic 0 (o_iald (o_ald 2 (o_ic 1 (o_iald (o_ald 2 (o_ic 2 (o_iald (o_ic 1 (o_if2 16 p_ne nx jp cal) jp cal) jp cal) jp cal) jp cal) jp cal) jp cal) jp cal) jp cal) jp cal) jp cal) jp cal,
  o_no,
  fun nx jp cal => o_ic 0 (o_invX 4 4 11 [(0, 48), (1, 49), (2, 50), (3, 51), (4, 52)] (o_iret nx jp cal) jp cal) jp cal,
  fun nx jp cal => o_ald 0 (o_invX 57 1 11 [(0, 48), (1, 49), (2, 50), (3, 51), (4, 52)] (o_iret nx jp cal) jp cal) jp cal,
  fun nx jp cal => o_ald 0 (o_ald 2 (o_ic 0 (o_iald (o_invX 39 2 11 [(0, 48), (1, 49), (2, 50), (3, 51), (4, 52)] (o_iret nx jp cal) jp cal) jp cal) jp cal) jp cal) jp cal,
  fun nx jp cal => o_ald 0 (o_ald 2 (o_ic 0 (o_iald (o_invX 34 2 11 [(0, 48), (1, 49), (2, 50), (3, 51), (4, 52)] (o_iret nx jp cal) jp cal) jp cal) jp cal) jp cal) jp cal,
  fun nx jp cal => o_ald 0 (o_ald 2 (o_ic 0 (o_iald (o_ald 2 (o_ic 1 (o_iald (o_invX 26 3 11 [(0, 48), (1, 49), (2, 50), (3, 51), (4, 52)] (o_iret nx jp cal) jp cal) jp cal) jp cal) jp cal) jp cal) jp cal) jp cal) jp cal,
  fun nx jp cal => o_ald 0 (o_ald 2 (o_ic 0 (o_iald (o_ald 2 (o_ic 1 (o_iald (o_invX 35 3 11 [(0, 48), (1, 49), (2, 50), (3, 51), (4, 52)] (o_iret nx jp cal) jp cal) jp cal) jp cal) jp cal) jp cal) jp cal) jp cal) jp cal,
  fun nx jp cal => o_ald 0 (o_ald 2 (o_ic 0 (o_iald (o_ald 2 (o_ic 1 (o_iald (o_invX 5 3 11 [(0, 48), (1, 49), (2, 50), (3, 51), (4, 52)] (o_iret nx jp cal) jp cal) jp cal) jp cal) jp cal) jp cal) jp cal) jp cal) jp cal,
  fun nx jp cal => o_ald 0 (o_ald 2 (o_ic 0 (o_iald (o_invX 44 2 11 [(0, 48), (1, 49), (2, 50), (3, 51), (4, 52)] (o_if 25 p_eq0 nx jp cal) jp cal) jp cal) jp cal) jp cal) jp cal,
  fun nx jp cal => o_ic 1 (o_go 26 nx jp cal) jp cal,
  o_ic 0,
  o_iret,
  fun nx jp cal => o_ald 0 (o_ald 2 (o_ic 0 (o_iald (o_ald 2 (o_ic 1 (o_iald (o_ic 1 (o_if2 29 p_ne nx jp cal) jp cal) jp cal) jp cal) jp cal) jp cal) jp cal) jp cal) jp cal,
  fun nx jp cal => o_ic 1 (o_go 30 nx jp cal) jp cal,
  o_ic 0,
  fun nx jp cal => o_ald 2 (o_ic 2 (o_iald (o_ic 1 (o_if2 32 p_ne nx jp cal) jp cal) jp cal) jp cal) jp cal,
  fun nx jp cal => o_ic 1 (o_go 33 nx jp cal) jp cal,
  o_ic 0,
  fun nx jp cal => o_invX 56 4 11 [(0, 48), (1, 49), (2, 50), (3, 51), (4, 52)] (o_iret nx jp cal) jp cal,
  fun nx jp cal => o_ald 0 (o_invX 7 1 11 [(0, 48), (1, 49), (2, 50), (3, 51), (4, 52)] (o_no nx jp cal) jp cal) jp cal,
  fun nx jp cal => o_ald 0 (o_ald 2 (o_ic 0 (o_iald (o_invX 52 2 11 [(0, 48), (1, 49), (2, 50), (3, 51), (4, 52)] (o_no nx jp cal) jp cal) jp cal) jp cal) jp cal) jp cal,
  fun nx jp cal => o_ald 0 (o_ald 2 (o_ic 0 (o_iald (o_invX 51 2 11 [(0, 48), (1, 49), (2, 50), (3, 51), (4, 52)] (o_no nx jp cal) jp cal) jp cal) jp cal) jp cal) jp cal,
  fun nx jp cal => o_ald 0 (o_invX 14 1 11 [(0, 48), (1, 49), (2, 50), (3, 51), (4, 52)] (o_iret nx jp cal) jp cal) jp cal,
  fun nx jp cal => o_ald 0 (o_ald 2 (o_ic 0 (o_iald (o_ald 2 (o_ic 1 (o_iald (o_un f_char (o_invX 10 3 11 [(0, 48), (1, 49), (2, 50), (3, 51), (4, 52)] (o_iret nx jp cal) jp cal) jp cal) jp cal) jp cal) jp cal) jp cal) jp cal) jp cal) jp cal,
  fun nx jp cal => o_ald 0 (o_ald 2 (o_ic 0 (o_iald (o_ald 2 (o_ic 1 (o_iald (o_invX 53 3 11 [(0, 48), (1, 49), (2, 50), (3, 51), (4, 52)] (o_iret nx jp cal) jp cal) jp cal) jp cal) jp cal) jp cal) jp cal) jp cal) jp cal,
  fun nx jp cal => o_ald 0 (o_ald 2 (o_ic 0 (o_iald (o_ald 2 (o_ic 1 (o_iald (o_invX 46 3 11 [(0, 48), (1, 49), (2, 50), (3, 51), (4, 52)] (o_if 42 p_eq0 nx jp cal) jp cal) jp cal) jp cal) jp cal) jp cal) jp cal) jp cal) jp cal,
  fun nx jp cal => o_ic 1 (o_go 43 nx jp cal) jp cal,
  o_ic 0,
  o_iret,
  fun nx jp cal => o_ald 0 (o_ald 2 (o_ic 0 (o_iald (o_ald 2 (o_ic 1 (o_iald (o_un f_char (o_invX 55 3 11 [(0, 48), (1, 49), (2, 50), (3, 51), (4, 52)] (o_iret nx jp cal) jp cal) jp cal) jp cal) jp cal) jp cal) jp cal) jp cal) jp cal) jp cal,
  fun nx jp cal => o_ald 0 (o_ald 2 (o_ic 0 (o_iald (o_invX 24 2 11 [(0, 48), (1, 49), (2, 50), (3, 51), (4, 52)] (o_iret nx jp cal) jp cal) jp cal) jp cal) jp cal) jp cal,
  fun nx jp cal => o_ald 0 (o_ald 2 (o_ic 0 (o_iald (o_invX 36 2 11 [(0, 48), (1, 49), (2, 50), (3, 51), (4, 52)] (o_iret nx jp cal) jp cal) jp cal) jp cal) jp cal) jp cal,
  fun nx jp cal => o_ald 0 (o_invX 11 1 11 [(0, 48), (1, 49), (2, 50), (3, 51), (4, 52)] (o_no nx jp cal) jp cal) jp cal,
  fun nx jp cal => o_xst 2 (o_ic 2294967295 (o_iret nx jp cal) jp cal) jp cal,
  fun nx jp cal => o_xst 2 (o_ic 2294967294 (o_iret nx jp cal) jp cal) jp cal,
  fun nx jp cal => o_xst 2 (o_ic 2294967293 (o_iret nx jp cal) jp cal) jp cal,
  fun nx jp cal => o_xst 2 (o_ic 2294967292 (o_iret nx jp cal) jp cal) jp cal,
  fun nx jp cal => o_xst 2 (o_ic 2294967291 (o_iret nx jp cal) jp cal) jp cal]
noncomputable def k_L_begin : List Op := [fun nx jp cal => o_ald 0 (o_ic 83 (o_ic 0 (o_newI (o_invS 127 3 (o_if 3 p_ne0 nx jp cal) jp cal) jp cal) jp cal) jp cal) jp cal,
  fun nx jp cal => o_ald 0 (o_ic 83 (o_ic 0 (o_newI (o_invS 127 3 (o_ic 1 (o_if2 3 p_ne nx jp cal) jp cal) jp cal) jp cal) jp cal) jp cal) jp cal,
  fun nx jp cal => o_ald 0 (o_ic 69 (o_ic 4 (o_newI (o_dup (o_ic 0 (o_ic 4 (o_iast (o_dup (o_ic 1 (o_ic 7 (o_iast (o_dup (o_ic 2 (o_ic 1 (o_iast (o_dup (o_ic 3 (o_ild 2 (o_iast (o_invS 127 3 (o_ic 7 (o_if2 4 p_eq nx jp cal) jp cal) jp cal) jp cal) jp cal) jp cal) jp cal) jp cal) jp cal) jp cal) jp cal) jp cal) jp cal) jp cal) jp cal) jp cal) jp cal) jp cal) jp cal) jp cal) jp cal) jp cal) jp cal,
  o_no,
  fun nx jp cal => o_ic 0 (o_ist 2 nx jp cal) jp cal,
  fun nx jp cal => o_ild 3 (o_ic 12 (o_if2 12 p_ge nx jp cal) jp cal) jp cal,
  fun nx jp cal => o_ald 0 (o_ic 80 (o_ic 4 (o_newI (o_dup (o_ic 0 (o_ic 9 (o_iast (o_dup (o_ic 1 (o_ild 1 (o_iast (o_dup (o_ic 2 (o_ic 1 (o_iast (o_dup (o_ic 3 (o_ic 99 (o_iast (o_invS 127 3 (o_ild 3 (o_if2 10 p_ne nx jp cal) jp cal) jp cal) jp cal) jp cal) jp cal) jp cal) jp cal) jp cal) jp cal) jp cal) jp cal) jp cal) jp cal) jp cal) jp cal) jp cal) jp cal) jp cal) jp cal) jp cal) jp cal) jp cal,
  fun nx jp cal => o_ald 0 (o_ic 85 (o_ic 1 (o_newI (o_dup (o_ic 0 (o_ild 3 (o_iast (o_invS 127 3 (o_ic 10 (o_if2 10 p_ne nx jp cal) jp cal) jp cal) jp cal) jp cal) jp cal) jp cal) jp cal) jp cal) jp cal) jp cal,
  fun nx jp cal => o_ald 0 (o_ic 66 (o_ic 2 (o_newI (o_dup (o_ic 0 (o_ild 3 (o_ic 2 (o_rem (o_iast (o_dup (o_ic 1 (o_ic 10 (o_iast (o_invS 127 3 (o_ic 1 (o_if2 10 p_ne nx jp cal) jp cal) jp cal) jp cal) jp cal) jp cal) jp cal) jp cal) jp cal) jp cal) jp cal) jp cal) jp cal) jp cal) jp cal) jp cal) jp cal,
  fun nx jp cal => o_ald 0 (o_ic 75 (o_ic 0 (o_newI (o_invS 127 3 (o_ild 3 (o_ic 2 (o_rem (o_if2 11 p_eq nx jp cal) jp cal) jp cal) jp cal) jp cal) jp cal) jp cal) jp cal) jp cal,
  o_no,
  fun nx jp cal => o_inc 3 1 (o_go 5 nx jp cal) jp cal,
  fun nx jp cal => o_ald 0 (o_ic 112 (o_ic 1 (o_newI (o_dup (o_ic 0 (o_ic 0 (o_iast (o_invS 127 3 (o_ic 140 (o_if2 19 p_ne nx jp cal) jp cal) jp cal) jp cal) jp cal) jp cal) jp cal) jp cal) jp cal) jp cal) jp cal,
  fun nx jp cal => o_ald 0 (o_ic 71 (o_ic 3 (o_newI (o_dup (o_ic 0 (o_ic 0 (o_iast (o_dup (o_ic 1 (o_ic 0 (o_iast (o_dup (o_ic 2 (o_ic 0 (o_iast (o_invS 127 3 (o_ic 2294967294 (o_if2 19 p_ne nx jp cal) jp cal) jp cal) jp cal) jp cal) jp cal) jp cal) jp cal) jp cal) jp cal) jp cal) jp cal) jp cal) jp cal) jp cal) jp cal) jp cal) jp cal) jp cal,
  fun nx jp cal => o_ald 0 (o_ic 71 (o_ic 3 (o_newI (o_dup (o_ic 0 (o_ic 0 (o_iast (o_dup (o_ic 1 (o_ic 1 (o_iast (o_dup (o_ic 2 (o_ic 0 (o_iast (o_invS 127 3 (o_ic 1 (o_if2 19 p_ne nx jp cal) jp cal) jp cal) jp cal) jp cal) jp cal) jp cal) jp cal) jp cal) jp cal) jp cal) jp cal) jp cal) jp cal) jp cal) jp cal) jp cal) jp cal) jp cal,
  fun nx jp cal => o_ald 0 (o_ic 71 (o_ic 3 (o_newI (o_dup (o_ic 0 (o_ic 0 (o_iast (o_dup (o_ic 1 (o_ic 1 (o_iast (o_dup (o_ic 2 (o_ic 0 (o_iast (o_invS 127 3 (o_ic 2294967293 (o_if2 19 p_ne nx jp cal) jp cal) jp cal) jp cal) jp cal) jp cal) jp cal) jp cal) jp cal) jp cal) jp cal) jp cal) jp cal) jp cal) jp cal) jp cal) jp cal) jp cal) jp cal,
  fun nx jp cal => o_ald 0 (o_ic 85 (o_ic 1 (o_newI (o_dup (o_ic 0 (o_ic 0 (o_iast (o_invS 127 3 (o_ic 2294967292 (o_if2 19 p_ne nx jp cal) jp cal) jp cal) jp cal) jp cal) jp cal) jp cal) jp cal) jp cal) jp cal) jp cal,
  fun nx jp cal => o_ald 0 (o_ic 78 (o_ic 0 (o_newI (o_invS 127 3 (o_ic 2294967293 (o_if2 19 p_ne nx jp cal) jp cal) jp cal) jp cal) jp cal) jp cal) jp cal,
  fun nx jp cal => o_ic 1 (o_go 20 nx jp cal) jp cal,
  o_no,
  o_bret 1]
noncomputable def k_L_hasNone : List Op := [fun nx jp cal => o_ild 1 (o_if 2 p_eq0 nx jp cal) jp cal,
  fun nx jp cal => o_ald 0 (o_invX 16 1 11 [(5, 3)] (o_no nx jp cal) jp cal) jp cal,
  fun nx jp cal => o_ald 0 (o_invX 28 1 11 [(5, 3)] (o_no nx jp cal) jp cal) jp cal,
  fun nx jp cal => o_xst 1 (o_ic 1 (o_bret 1 nx jp cal) jp cal) jp cal]
noncomputable def k_X10_caughtLoss : List Op := [fun nx jp cal => o_ild 1 (o_ic 3 (o_if2 2 p_gt nx jp cal) jp cal) jp cal,
  fun nx jp cal => o_ic 2 (o_go 3 nx jp cal) jp cal,
  o_ic 1,
  fun nx jp cal => o_ist 1 (o_ild 0 (o_ic 1 (o_if2 5 p_ne nx jp cal) jp cal) jp cal) jp cal,
  fun nx jp cal => o_ild 2 (o_ic 2 (o_bin f_add (o_go 6 nx jp cal) jp cal) jp cal) jp cal,
  o_ild 2,
  o_iret]
noncomputable def k_X10_chance : List Op := [fun nx jp cal => o_ild 0 (o_i2d (o_v (.inr (.inr (.inr (.inl 4636737291354636288)))) (o_dbin (FP.Core.div FP.Core.b64) (o_dret nx jp cal) jp cal) jp cal) jp cal) jp cal]
noncomputable def k_X10_defendersBehindOut : List Op := [fun nx jp cal => o_ild 0 (o_ic 7 (o_if2 2 p_ge nx jp cal) jp cal) jp cal,
  fun nx jp cal => o_ild 0 (o_ic 1 (o_bin f_add (o_go 3 nx jp cal) jp cal) jp cal) jp cal,
  o_ic 7,
  o_iret]
noncomputable def k_X10_defendersBehindTouch : List Op := [fun nx jp cal => o_ild 0 (o_ic 1 (o_if2 2 p_ne nx jp cal) jp cal) jp cal,
  fun nx jp cal => o_ic 7 (o_go 3 nx jp cal) jp cal,
  fun nx jp cal => o_ild 0 (o_ic 1 (o_bin f_sub nx jp cal) jp cal) jp cal,
  o_iret]
noncomputable def k_X10_doOrDieLoss : List Op := [fun nx jp cal => o_ild 0 (o_ic 1 (o_if2 2 p_ne nx jp cal) jp cal) jp cal,
  fun nx jp cal => o_ic 3 (o_go 3 nx jp cal) jp cal,
  o_ic 1,
  o_iret]
noncomputable def k_X10_isSolvedBackward : List Op := [fun nx jp cal => o_ald 0 (o_ald 0 (o_get 10 2 (o_ald 0 (o_get 10 3 (o_ald 0 (o_get 10 4 (o_ald 0 (o_get 10 5 (o_ic 2 (o_invV 7 6 10 (o_ald 0 (o_ic 2 (o_invV 12 2 10 (o_dcmp (o_if 2 p_ne0 nx jp cal) jp cal) jp cal) jp cal) jp cal) jp cal) jp cal) jp cal) jp cal) jp cal) jp cal) jp cal) jp cal) jp cal) jp cal) jp cal,
  fun nx jp cal => o_ic 1 (o_go 3 nx jp cal) jp cal,
  o_no,
  o_bret 1]
noncomputable def k_X10_keep : List Op := [fun nx jp cal => o_ild 1 (o_if 3 p_lt0 nx jp cal) jp cal,
  fun nx jp cal => o_ild 1 (o_ald 0 (o_get 10 0 (o_alen (o_if2 3 p_ge nx jp cal) jp cal) jp cal) jp cal) jp cal,
  fun nx jp cal => o_ald 0 (o_get 10 0 (o_ild 1 (o_dld 2 (o_dast nx jp cal) jp cal) jp cal) jp cal) jp cal,
  o_ret]
noncomputable def k_X10_lookAhead : List Op := [fun nx jp cal => o_ild 5 (o_if 2 p_gt0 nx jp cal) jp cal,
  fun nx jp cal => o_v (.inr (.inr (.inr (.inl 0)))) (o_dret nx jp cal) jp cal,
  fun nx jp cal => o_ild 5 (o_ic 1 (o_bin f_sub (o_ist 5 (o_ild 2 (o_invS 15 1 (o_i2d (o_ald 0 (o_ild 2 (o_invS 3 1 (o_ild 1 (o_invS 10 1 (o_ild 4 (o_ic 0 (o_ild 6 (o_invV 7 6 10 (o_dbin (FP.Core.sub FP.Core.b64) (o_wst true 6 (o_ald 0 (o_ild 2 (o_invS 2 1 (o_ild 1 (o_invS 9 1 (o_ild 4 (o_ic 0 (o_ild 6 (o_invV 7 6 10 (o_wst true 8 (o_ild 3 (o_ic 2 (o_if2 4 p_ge nx jp cal) jp cal) jp cal) jp cal) jp cal) jp cal) jp cal) jp cal) jp cal) jp cal) jp cal) jp cal) jp cal) jp cal) jp cal) jp cal) jp cal) jp cal) jp cal) jp cal) jp cal) jp cal) jp cal) jp cal) jp cal) jp cal) jp cal) jp cal) jp cal) jp cal) jp cal,
  fun nx jp cal => o_v (.inr (.inr (.inr (.inl 0)))) (o_ald 0 (o_ild 2 (o_ild 1 (o_ild 4 (o_ild 3 (o_ic 1 (o_bin f_add (o_ild 6 (o_invV 7 6 10 (o_dbin (FP.Core.sub FP.Core.b64) (o_go 5 nx jp cal) jp cal) jp cal) jp cal) jp cal) jp cal) jp cal) jp cal) jp cal) jp cal) jp cal) jp cal,
  o_no,
  fun nx jp cal => o_wst true 10 (o_ald 0 (o_get 10 6 (o_invS 1 1 (o_dld 7 (o_dbin (FP.Core.mul FP.Core.b64) (o_ald 0 (o_get 10 7 (o_invS 1 1 (o_ild 1 (o_ild 2 (o_invS 0 2 (o_un f_neg (o_i2d (o_dld 9 (o_dbin (FP.Core.sub FP.Core.b64) (o_dbin (FP.Core.mul FP.Core.b64) (o_dbin (FP.Core.add FP.Core.b64) (o_ic 100 (o_ald 0 (o_get 10 6 (o_bin f_sub (o_ald 0 (o_get 10 7 (o_bin f_sub (o_invS 1 1 (o_dld 11 (o_dbin (FP.Core.mul FP.Core.b64) (o_dbin (FP.Core.add FP.Core.b64) (o_dret nx jp cal) jp cal) jp cal) jp cal) jp cal) jp cal) jp cal) jp cal) jp cal) jp cal) jp cal) jp cal) jp cal) jp cal) jp cal) jp cal) jp cal) jp cal) jp cal) jp cal) jp cal) jp cal) jp cal) jp cal) jp cal) jp cal) jp cal) jp cal) jp cal) jp cal]
noncomputable def k_X10_pair : List Op := [fun nx jp cal => o_ild 0 (o_ic 1 (o_bin f_sub (o_ic 7 (o_bin f_mul (o_ild 1 (o_bin f_add (o_ic 1 (o_bin f_sub (o_ic 9 (o_bin f_mul (o_iret nx jp cal) jp cal) jp cal) jp cal) jp cal) jp cal) jp cal) jp cal) jp cal) jp cal) jp cal) jp cal]
noncomputable def k_X10_raidersBehindOut : List Op := [fun nx jp cal => o_ild 0 (o_ic 1 (o_if2 2 p_ne nx jp cal) jp cal) jp cal,
  fun nx jp cal => o_ic 7 (o_go 3 nx jp cal) jp cal,
  fun nx jp cal => o_ild 0 (o_ic 1 (o_bin f_sub nx jp cal) jp cal) jp cal,
  o_iret]
noncomputable def k_X10_raidersBehindTouch : List Op := [fun nx jp cal => o_ild 0 (o_ic 7 (o_if2 2 p_ge nx jp cal) jp cal) jp cal,
  fun nx jp cal => o_ild 0 (o_ic 1 (o_bin f_add (o_go 3 nx jp cal) jp cal) jp cal) jp cal,
  o_ic 7,
  o_iret]
noncomputable def k_X10_read : List Op := [fun nx jp cal => o_ild 1 (o_if 3 p_lt0 nx jp cal) jp cal,
  fun nx jp cal => o_ild 1 (o_ald 0 (o_alen (o_if2 3 p_ge nx jp cal) jp cal) jp cal) jp cal,
  fun nx jp cal => o_ald 0 (o_ild 1 (o_dald (o_go 4 nx jp cal) jp cal) jp cal) jp cal,
  o_no,
  o_dret]
noncomputable def k_X10_solveBackward : List Op := [fun nx jp cal => o_ic 0 (o_ist 1 nx jp cal) jp cal,
  fun nx jp cal => o_ild 2 (o_ic 441 (o_if2 3 p_ge nx jp cal) jp cal) jp cal,
  fun nx jp cal => o_ald 0 (o_ild 2 (o_v (.inr (.inr (.inr (.inl 0)))) (o_invV 6 3 10 (o_inc 2 1 (o_go 1 nx jp cal) jp cal) jp cal) jp cal) jp cal) jp cal,
  fun nx jp cal => o_ic 1 (o_ist 1 nx jp cal) jp cal,
  fun nx jp cal => o_ild 2 (o_ild 1 (o_if2 6 p_gt nx jp cal) jp cal) jp cal,
  fun nx jp cal => o_ald 0 (o_get 10 0 (o_ast 2 (o_ald 0 (o_ald 0 (o_get 10 1 (o_putR 10 0 (o_ald 0 (o_ald 3 (o_putR 10 1 (o_ald 0 (o_invV 13 1 10 (o_inc 2 1 (o_go 4 nx jp cal) jp cal) jp cal) jp cal) jp cal) jp cal) jp cal) jp cal) jp cal) jp cal) jp cal) jp cal) jp cal) jp cal,
  fun nx jp cal => o_ald 0 (o_get 10 0 (o_ald 0 (o_get 10 2 (o_ald 0 (o_get 10 3 (o_invS 8 2 (o_ald 0 (o_get 10 4 (o_ic 3 (o_bin f_mul (o_bin f_add (o_ald 0 (o_get 10 5 (o_bin f_add (o_invS 11 2 (o_dret nx jp cal) jp cal) jp cal) jp cal) jp cal) jp cal) jp cal) jp cal) jp cal) jp cal) jp cal) jp cal) jp cal) jp cal) jp cal) jp cal) jp cal]
noncomputable def k_X10_solveOneMore : List Op := [fun nx jp cal => o_ic 1 (o_ist 0 nx jp cal) jp cal,
  fun nx jp cal => o_ild 1 (o_ic 7 (o_if2 6 p_gt nx jp cal) jp cal) jp cal,
  fun nx jp cal => o_ic 1 (o_ist 1 nx jp cal) jp cal,
  fun nx jp cal => o_ild 2 (o_ic 7 (o_if2 5 p_gt nx jp cal) jp cal) jp cal,
  fun nx jp cal => o_ald 0 (o_ild 1 (o_ild 2 (o_invV 14 3 10 (o_inc 2 1 (o_go 3 nx jp cal) jp cal) jp cal) jp cal) jp cal) jp cal,
  fun nx jp cal => o_inc 1 1 (o_go 1 nx jp cal) jp cal,
  o_ret]
noncomputable def k_X10_solvePair : List Op := [fun nx jp cal => o_ild 1 (o_ild 2 (o_invS 8 2 (o_ist 2 (o_ild 2 (o_ild 1 (o_invS 8 2 (o_ist 3 (o_ild 2 (o_invS 3 1 (o_ild 1 (o_invS 10 1 (o_invS 8 2 (o_ist 4 (o_ild 2 (o_invS 2 1 (o_ild 1 (o_invS 9 1 (o_invS 8 2 (o_ist 5 (o_ic 100 (o_ald 0 (o_get 10 6 (o_bin f_sub (o_ald 0 (o_get 10 7 (o_bin f_sub (o_invS 1 1 (o_wst true 6 (o_ic 0 (o_ist 8 nx jp cal) jp cal) jp cal) jp cal) jp cal) jp cal) jp cal) jp cal) jp cal) jp cal) jp cal) jp cal) jp cal) jp cal) jp cal) jp cal) jp cal) jp cal) jp cal) jp cal) jp cal) jp cal) jp cal) jp cal) jp cal) jp cal) jp cal) jp cal) jp cal) jp cal) jp cal,
  fun nx jp cal => o_ild 9 (o_ic 2 (o_if2 6 p_gt nx jp cal) jp cal) jp cal,
  fun nx jp cal => o_ald 0 (o_get 10 6 (o_invS 1 1 (o_ild 2 (o_invS 15 1 (o_i2d (o_ald 0 (o_get 10 1 (o_ild 5 (o_ild 9 (o_ic 3 (o_bin f_mul (o_bin f_add (o_invS 11 2 (o_dbin (FP.Core.sub FP.Core.b64) (o_dbin (FP.Core.mul FP.Core.b64) (o_ald 0 (o_get 10 7 (o_invS 1 1 (o_ild 1 (o_ild 2 (o_invS 0 2 (o_un f_neg (o_i2d (o_ald 0 (o_get 10 1 (o_ild 6 (o_ild 9 (o_ic 3 (o_bin f_mul (o_bin f_add (o_invS 11 2 (o_dbin (FP.Core.sub FP.Core.b64) (o_dbin (FP.Core.mul FP.Core.b64) (o_dbin (FP.Core.add FP.Core.b64) (o_wst true 9 (o_ic 0 (o_ist 11 nx jp cal) jp cal) jp cal) jp cal) jp cal) jp cal) jp cal) jp cal) jp cal) jp cal) jp cal) jp cal) jp cal) jp cal) jp cal) jp cal) jp cal) jp cal) jp cal) jp cal) jp cal) jp cal) jp cal) jp cal) jp cal) jp cal) jp cal) jp cal) jp cal) jp cal) jp cal) jp cal) jp cal) jp cal) jp cal) jp cal) jp cal) jp cal,
  fun nx jp cal => o_ild 12 (o_ic 2 (o_if2 5 p_ge nx jp cal) jp cal) jp cal,
  fun nx jp cal => o_ald 0 (o_ild 3 (o_ild 12 (o_ic 3 (o_bin f_mul (o_bin f_add (o_ild 9 (o_bin f_add (o_dld 10 (o_dld 7 (o_v (.inr (.inr (.inr (.inl 0)))) (o_ald 0 (o_get 10 1 (o_ild 4 (o_ild 9 (o_ic 3 (o_bin f_mul (o_bin f_add (o_ild 12 (o_bin f_add (o_ic 1 (o_bin f_add (o_invS 11 2 (o_dbin (FP.Core.sub FP.Core.b64) (o_dbin (FP.Core.mul FP.Core.b64) (o_dbin (FP.Core.add FP.Core.b64) (o_invV 6 3 10 (o_inc 12 1 (o_go 3 nx jp cal) jp cal) jp cal) jp cal) jp cal) jp cal) jp cal) jp cal) jp cal) jp cal) jp cal) jp cal) jp cal) jp cal) jp cal) jp cal) jp cal) jp cal) jp cal) jp cal) jp cal) jp cal) jp cal) jp cal) jp cal) jp cal) jp cal) jp cal) jp cal,
  fun nx jp cal => o_ald 0 (o_ild 3 (o_ic 6 (o_bin f_add (o_ild 9 (o_bin f_add (o_dld 10 (o_dld 7 (o_ild 1 (o_invS 4 1 (o_un f_neg (o_i2d (o_ald 0 (o_get 10 1 (o_ild 6 (o_ild 9 (o_ic 3 (o_bin f_mul (o_bin f_add (o_invS 11 2 (o_dbin (FP.Core.sub FP.Core.b64) (o_dbin (FP.Core.mul FP.Core.b64) (o_dbin (FP.Core.add FP.Core.b64) (o_invV 6 3 10 (o_inc 9 1 (o_go 1 nx jp cal) jp cal) jp cal) jp cal) jp cal) jp cal) jp cal) jp cal) jp cal) jp cal) jp cal) jp cal) jp cal) jp cal) jp cal) jp cal) jp cal) jp cal) jp cal) jp cal) jp cal) jp cal) jp cal) jp cal) jp cal) jp cal,
  o_ret]
noncomputable def k_X10_touchGain : List Op := [fun nx jp cal => o_ild 0 (o_ic 1 (o_if2 2 p_ne nx jp cal) jp cal) jp cal,
  fun nx jp cal => o_ic 3 (o_go 3 nx jp cal) jp cal,
  o_ic 1,
  o_iret]
noncomputable def k_L_cards (v0 : Nat) (v1 : Nat) (v2 : Nat) : List Op := [fun nx jp cal => o_new 11 8 [.inr (.inl 0), .inr (.inl 0), .inr (.inl 0), .inr (.inl 0), .inr (.inl 0), .inr (.inl 0), .inr (.inl 0), .inr (.inl 0)] (o_dup (o_invI 0 1 (o_ast 0 (o_ald 1 (o_ic 5 (o_ic 20 (o_invS 128 3 (o_if 2 p_ne0 nx jp cal) jp cal) jp cal) jp cal) jp cal) jp cal) jp cal) jp cal) jp cal,
  o_no,
  fun nx jp cal => o_sld 0 (o_ic 0 (o_sat 0 (o_ic 2 (o_some 0 2 v0 (o_ist 1 (o_ic 2 (o_sld 0 (o_ic 1 (o_sat 1 (o_ic 4 (o_some 1 4 v1 (o_bin f_mul (o_ild 2 (o_bin f_add (o_ist 2 (o_sld 0 (o_ic 2 (o_sat 2 (o_ic 3 (o_some 2 3 v2 (o_if 4 p_ne0 nx jp cal) jp cal) jp cal) jp cal) jp cal) jp cal) jp cal) jp cal) jp cal) jp cal) jp cal) jp cal) jp cal) jp cal) jp cal) jp cal) jp cal) jp cal) jp cal) jp cal) jp cal) jp cal,
  fun nx jp cal => o_ic 1 (o_go 5 nx jp cal) jp cal,
  o_ic 0,
  fun nx jp cal => o_ist 3 (o_ald 1 (o_ic 99 (o_ic 2 (o_newI (o_dup (o_ic 0 (o_ild 3 (o_iast (o_dup (o_ic 1 (o_ic 120 (o_iast (o_invS 127 3 (o_ic 2294967294 (o_if2 9 p_ne nx jp cal) jp cal) jp cal) jp cal) jp cal) jp cal) jp cal) jp cal) jp cal) jp cal) jp cal) jp cal) jp cal) jp cal) jp cal) jp cal,
  fun nx jp cal => o_ald 1 (o_ic 99 (o_ic 2 (o_newI (o_dup (o_ic 0 (o_ic 8 (o_ild 2 (o_bin f_add (o_iast (o_dup (o_ic 1 (o_ic 103 (o_iast (o_invS 127 3 (o_ic 2294967292 (o_if2 9 p_ne nx jp cal) jp cal) jp cal) jp cal) jp cal) jp cal) jp cal) jp cal) jp cal) jp cal) jp cal) jp cal) jp cal) jp cal) jp cal) jp cal) jp cal,
  fun nx jp cal => o_ald 1 (o_ic 99 (o_ic 2 (o_newI (o_dup (o_ic 0 (o_ild 3 (o_iast (o_dup (o_ic 1 (o_ic 103 (o_iast (o_invS 127 3 (o_ic 103 (o_if2 9 p_ne nx jp cal) jp cal) jp cal) jp cal) jp cal) jp cal) jp cal) jp cal) jp cal) jp cal) jp cal) jp cal) jp cal) jp cal) jp cal,
  fun nx jp cal => o_ald 1 (o_ic 109 (o_ic 1 (o_newI (o_dup (o_ic 0 (o_ild 2 (o_iast (o_invS 127 3 (o_ic 4 (o_if2 10 p_eq nx jp cal) jp cal) jp cal) jp cal) jp cal) jp cal) jp cal) jp cal) jp cal) jp cal) jp cal,
  o_no,
  fun nx jp cal => o_ald 1 (o_ic 99 (o_ic 2 (o_newI (o_dup (o_ic 0 (o_ild 3 (o_iast (o_dup (o_ic 1 (o_ild 4 (o_if 12 p_eq0 nx jp cal) jp cal) jp cal) jp cal) jp cal) jp cal) jp cal) jp cal) jp cal) jp cal) jp cal) jp cal,
  fun nx jp cal => o_ic 114 (o_go 13 nx jp cal) jp cal,
  o_ic 103,
  fun nx jp cal => o_iast (o_invS 127 3 (o_ild 4 (o_if 15 p_eq0 nx jp cal) jp cal) jp cal) jp cal,
  fun nx jp cal => o_ic 114 (o_go 16 nx jp cal) jp cal,
  o_ic 121,
  o_if2 20 p_ne,
  fun nx jp cal => o_ald 1 (o_ic 109 (o_ic 1 (o_newI (o_dup (o_ic 0 (o_ild 2 (o_iast (o_invS 127 3 (o_ic 3 (o_if2 20 p_ne nx jp cal) jp cal) jp cal) jp cal) jp cal) jp cal) jp cal) jp cal) jp cal) jp cal) jp cal,
  fun nx jp cal => o_ald 1 (o_ic 99 (o_ic 2 (o_newI (o_dup (o_ic 0 (o_ild 3 (o_iast (o_dup (o_ic 1 (o_ic 103 (o_iast (o_invS 127 3 (o_ic 2294967292 (o_if2 20 p_ne nx jp cal) jp cal) jp cal) jp cal) jp cal) jp cal) jp cal) jp cal) jp cal) jp cal) jp cal) jp cal) jp cal) jp cal) jp cal,
  fun nx jp cal => o_ald 1 (o_ic 117 (o_ic 2 (o_newI (o_dup (o_ic 0 (o_ild 2 (o_iast (o_dup (o_ic 1 (o_ic 0 (o_iast (o_invS 127 3 (o_ic 2294967291 (o_if2 21 p_eq nx jp cal) jp cal) jp cal) jp cal) jp cal) jp cal) jp cal) jp cal) jp cal) jp cal) jp cal) jp cal) jp cal) jp cal) jp cal,
  o_no,
  fun nx jp cal => o_ild 3 (o_ic 2 (o_bin f_add (o_ic 8 (o_rem (o_ist 4 (o_ic 8 (o_ild 2 (o_bin f_add (o_ist 5 (o_ic 0 (o_ist 6 nx jp cal) jp cal) jp cal) jp cal) jp cal) jp cal) jp cal) jp cal) jp cal) jp cal) jp cal) jp cal,
  fun nx jp cal => o_ild 7 (o_ic 6 (o_if2 37 p_ge nx jp cal) jp cal) jp cal,
  fun nx jp cal => o_ild 7 (o_ic 2 (o_rem (o_if 25 p_ne0 nx jp cal) jp cal) jp cal) jp cal,
  fun nx jp cal => o_ild 5 (o_go 26 nx jp cal) jp cal,
  o_ild 6,
  fun nx jp cal => o_ist 7 (o_ild 7 (o_ic 2 (o_rem (o_if 28 p_ne0 nx jp cal) jp cal) jp cal) jp cal) jp cal,
  fun nx jp cal => o_ild 6 (o_go 29 nx jp cal) jp cal,
  o_ild 5,
  fun nx jp cal => o_ist 8 (o_ald 1 (o_ic 90 (o_ic 2 (o_newI (o_dup (o_ic 0 (o_ild 8 (o_iast (o_dup (o_ic 1 (o_ild 8 (o_iast (o_invS 127 3 (o_ic 2294967292 (o_if2 35 p_ne nx jp cal) jp cal) jp cal) jp cal) jp cal) jp cal) jp cal) jp cal) jp cal) jp cal) jp cal) jp cal) jp cal) jp cal) jp cal) jp cal,
  fun nx jp cal => o_ald 1 (o_ic 90 (o_ic 2 (o_newI (o_dup (o_ic 0 (o_ild 3 (o_iast (o_dup (o_ic 1 (o_ild 9 (o_iast (o_invS 127 3 (o_ic 2294967292 (o_if2 35 p_ne nx jp cal) jp cal) jp cal) jp cal) jp cal) jp cal) jp cal) jp cal) jp cal) jp cal) jp cal) jp cal) jp cal) jp cal) jp cal,
  fun nx jp cal => o_ald 1 (o_ic 90 (o_ic 2 (o_newI (o_dup (o_ic 0 (o_ild 8 (o_iast (o_dup (o_ic 1 (o_ild 9 (o_iast (o_invS 127 3 (o_ild 7 (o_ic 5 (o_if2 33 p_ge nx jp cal) jp cal) jp cal) jp cal) jp cal) jp cal) jp cal) jp cal) jp cal) jp cal) jp cal) jp cal) jp cal) jp cal) jp cal) jp cal,
  fun nx jp cal => o_ild 7 (o_ic 1 (o_bin f_add (o_go 34 nx jp cal) jp cal) jp cal) jp cal,
  o_ic 2294967292,
  o_if2 36 p_eq,
  o_no,
  fun nx jp cal => o_inc 7 1 (o_go 22 nx jp cal) jp cal,
  fun nx jp cal => o_ald 1 (o_ic 98 (o_ic 2 (o_newI (o_dup (o_ic 0 (o_ild 2 (o_iast (o_dup (o_ic 1 (o_ic 0 (o_iast (o_invS 127 3 (o_ic 10 (o_ild 2 (o_bin f_add (o_if2 40 p_ne nx jp cal) jp cal) jp cal) jp cal) jp cal) jp cal) jp cal) jp cal) jp cal) jp cal) jp cal) jp cal) jp cal) jp cal) jp cal) jp cal) jp cal,
  fun nx jp cal => o_ald 1 (o_ic 98 (o_ic 2 (o_newI (o_dup (o_ic 0 (o_ild 2 (o_iast (o_dup (o_ic 1 (o_ic 1 (o_iast (o_invS 127 3 (o_ild 5 (o_if2 40 p_ne nx jp cal) jp cal) jp cal) jp cal) jp cal) jp cal) jp cal) jp cal) jp cal) jp cal) jp cal) jp cal) jp cal) jp cal) jp cal,
  fun nx jp cal => o_ald 1 (o_ic 98 (o_ic 2 (o_newI (o_dup (o_ic 0 (o_ild 2 (o_iast (o_dup (o_ic 1 (o_ic 2 (o_iast (o_invS 127 3 (o_ic 2294967291 (o_if2 41 p_eq nx jp cal) jp cal) jp cal) jp cal) jp cal) jp cal) jp cal) jp cal) jp cal) jp cal) jp cal) jp cal) jp cal) jp cal) jp cal,
  o_no,
  fun nx jp cal => o_ic 0 (o_ist 6 nx jp cal) jp cal,
  fun nx jp cal => o_ild 7 (o_ic 4 (o_if2 51 p_ge nx jp cal) jp cal) jp cal,
  fun nx jp cal => o_ald 1 (o_ic 117 (o_ic 2 (o_newI (o_dup (o_ic 0 (o_ild 2 (o_iast (o_dup (o_ic 1 (o_ic 0 (o_iast (o_invS 127 3 (o_ic 2294967291 (o_if2 49 p_ne nx jp cal) jp cal) jp cal) jp cal) jp cal) jp cal) jp cal) jp cal) jp cal) jp cal) jp cal) jp cal) jp cal) jp cal) jp cal,
  fun nx jp cal => o_ald 1 (o_ic 109 (o_ic 1 (o_newI (o_dup (o_ic 0 (o_ild 2 (o_iast (o_invS 127 3 (o_ic 3 (o_if2 49 p_ne nx jp cal) jp cal) jp cal) jp cal) jp cal) jp cal) jp cal) jp cal) jp cal) jp cal) jp cal,
  fun nx jp cal => o_ald 1 (o_ic 84 (o_ic 0 (o_newI (o_invS 127 3 (o_ild 7 (o_ic 2 (o_rem (o_if2 49 p_ne nx jp cal) jp cal) jp cal) jp cal) jp cal) jp cal) jp cal) jp cal) jp cal,
  fun nx jp cal => o_ald 1 (o_ic 82 (o_ic 1 (o_newI (o_dup (o_ic 0 (o_ald 1 (o_ic 97 (o_ic 2 (o_newI (o_dup (o_ic 0 (o_ild 7 (o_ic 2 (o_rem (o_iast (o_dup (o_ic 1 (o_ic 0 (o_iast (o_invS 127 3 (o_iast (o_invS 127 3 (o_if 49 p_ne0 nx jp cal) jp cal) jp cal) jp cal) jp cal) jp cal) jp cal) jp cal) jp cal) jp cal) jp cal) jp cal) jp cal) jp cal) jp cal) jp cal) jp cal) jp cal) jp cal) jp cal) jp cal) jp cal) jp cal) jp cal,
  fun nx jp cal => o_ald 1 (o_ic 99 (o_ic 2 (o_newI (o_dup (o_ic 0 (o_ild 3 (o_iast (o_dup (o_ic 1 (o_ic 121 (o_iast (o_invS 127 3 (o_ic 2294967293 (o_if2 49 p_ne nx jp cal) jp cal) jp cal) jp cal) jp cal) jp cal) jp cal) jp cal) jp cal) jp cal) jp cal) jp cal) jp cal) jp cal) jp cal,
  fun nx jp cal => o_ald 1 (o_ic 67 (o_ic 0 (o_newI (o_invS 127 3 (o_if 50 p_eq0 nx jp cal) jp cal) jp cal) jp cal) jp cal) jp cal,
  o_no,
  fun nx jp cal => o_inc 7 1 (o_go 42 nx jp cal) jp cal,
  fun nx jp cal => o_ald 1 (o_ic 117 (o_ic 2 (o_newI (o_dup (o_ic 0 (o_ild 2 (o_iast (o_dup (o_ic 1 (o_ic 0 (o_iast (o_invS 127 3 (o_ild 4 (o_if 53 p_eq0 nx jp cal) jp cal) jp cal) jp cal) jp cal) jp cal) jp cal) jp cal) jp cal) jp cal) jp cal) jp cal) jp cal) jp cal) jp cal,
  fun nx jp cal => o_ic 2294967291 (o_go 54 nx jp cal) jp cal,
  o_ild 3,
  o_if2 60 p_ne,
  fun nx jp cal => o_ald 1 (o_ic 109 (o_ic 1 (o_newI (o_dup (o_ic 0 (o_ild 2 (o_iast (o_invS 127 3 (o_ic 3 (o_if2 60 p_ne nx jp cal) jp cal) jp cal) jp cal) jp cal) jp cal) jp cal) jp cal) jp cal) jp cal) jp cal,
  fun nx jp cal => o_ald 1 (o_invV 45 1 11 (o_ic 4 (o_if2 60 p_ne nx jp cal) jp cal) jp cal) jp cal,
  fun nx jp cal => o_ald 1 (o_invV 16 1 11 (o_v (.inr (.inr (.inr (.inr (.inl 1065353216))))) (o_fcmp (o_if 60 p_ne0 nx jp cal) jp cal) jp cal) jp cal) jp cal,
  fun nx jp cal => o_ald 1 (o_invV 22 1 11 (o_if 60 p_eq0 nx jp cal) jp cal) jp cal,
  fun nx jp cal => o_ic 1 (o_go 61 nx jp cal) jp cal,
  o_no,
  o_bret 1]
noncomputable def k_L_empties (v20 : Nat) : List Op := [fun nx jp cal => o_new 11 8 [.inr (.inl 0), .inr (.inl 0), .inr (.inl 0), .inr (.inl 0), .inr (.inl 0), .inr (.inl 0), .inr (.inl 0), .inr (.inl 0)] (o_dup (o_invI 0 1 (o_ast 0 (o_ic 2 (o_ic 2 (o_sld 0 (o_ic 20 (o_sat 20 (o_ic 6 (o_some 20 6 v20 (o_bin f_mul (o_bin f_add (o_ist 1 (o_ald 1 (o_ic 1 (o_ild 2 (o_invS 128 3 (o_if 2 p_ne0 nx jp cal) jp cal) jp cal) jp cal) jp cal) jp cal) jp cal) jp cal) jp cal) jp cal) jp cal) jp cal) jp cal) jp cal) jp cal) jp cal) jp cal) jp cal) jp cal,
  o_no,
  fun nx jp cal => o_ic 2 (o_newI (o_ast 2 (o_ic 2 (o_newI (o_ast 3 (o_ic 2 (o_newI (o_ast 4 (o_ic 0 (o_ist 5 nx jp cal) jp cal) jp cal) jp cal) jp cal) jp cal) jp cal) jp cal) jp cal) jp cal) jp cal,
  fun nx jp cal => o_ild 6 (o_ic 2 (o_ild 2 (o_bin f_mul (o_if2 29 p_ge nx jp cal) jp cal) jp cal) jp cal) jp cal,
  fun nx jp cal => o_ild 6 (o_ild 2 (o_if2 6 p_ge nx jp cal) jp cal) jp cal,
  fun nx jp cal => o_ild 6 (o_ic 2 (o_rem (o_go 7 nx jp cal) jp cal) jp cal) jp cal,
  fun nx jp cal => o_ic 1 (o_ild 6 (o_ild 2 (o_bin f_sub (o_ic 2 (o_rem (o_bin f_sub nx jp cal) jp cal) jp cal) jp cal) jp cal) jp cal) jp cal,
  fun nx jp cal => o_ist 6 (o_ald 3 (o_ild 7 (o_iald (o_ic 2 (o_if2 9 p_ne nx jp cal) jp cal) jp cal) jp cal) jp cal) jp cal,
  fun nx jp cal => o_ic 1 (o_go 10 nx jp cal) jp cal,
  o_ic 0,
  fun nx jp cal => o_ist 7 (o_ald 1 (o_invV 18 1 11 (o_if 16 p_eq0 nx jp cal) jp cal) jp cal) jp cal,
  fun nx jp cal => o_ald 1 (o_ic 82 (o_ic 1 (o_newI (o_dup (o_ic 0 (o_ald 1 (o_ic 97 (o_ic 2 (o_newI (o_dup (o_ic 0 (o_ild 7 (o_iast (o_dup (o_ic 1 (o_ic 0 (o_iast (o_invS 127 3 (o_iast (o_invS 127 3 (o_ild 8 (o_if 13 p_eq0 nx jp cal) jp cal) jp cal) jp cal) jp cal) jp cal) jp cal) jp cal) jp cal) jp cal) jp cal) jp cal) jp cal) jp cal) jp cal) jp cal) jp cal) jp cal) jp cal) jp cal) jp cal) jp cal) jp cal,
  fun nx jp cal => o_ic 1 (o_go 14 nx jp cal) jp cal,
  o_ic 0,
  o_if2 16 p_ne,
  fun nx jp cal => o_ald 1 (o_ic 67 (o_ic 0 (o_newI (o_invS 127 3 (o_if 17 p_eq0 nx jp cal) jp cal) jp cal) jp cal) jp cal) jp cal,
  o_no,
  fun nx jp cal => o_ald 3 (o_ild 7 (o_ild 8 (o_if 19 p_eq0 nx jp cal) jp cal) jp cal) jp cal,
  fun nx jp cal => o_ic 0 (o_go 20 nx jp cal) jp cal,
  fun nx jp cal => o_ald 3 (o_ild 7 (o_iald (o_ic 1 (o_bin f_add nx jp cal) jp cal) jp cal) jp cal) jp cal,
  fun nx jp cal => o_iast (o_ild 8 (o_if 22 p_eq0 nx jp cal) jp cal) jp cal,
  fun nx jp cal => o_ald 4 (o_ic 1 (o_ild 7 (o_bin f_sub (o_dup2 (o_iald (o_ic 1 (o_bin f_add (o_iast (o_ald 5 (o_ild 7 (o_dup2 (o_iald (o_ic 1 (o_bin f_add (o_iast (o_ald 5 (o_ic 1 (o_ild 7 (o_bin f_sub (o_ic 0 (o_ald 5 (o_ic 1 (o_ild 7 (o_bin f_sub (o_iald (o_ic 1 (o_bin f_sub (o_max (o_iast nx jp cal) jp cal) jp cal) jp cal) jp cal) jp cal) jp cal) jp cal) jp cal) jp cal) jp cal) jp cal) jp cal) jp cal) jp cal) jp cal) jp cal) jp cal) jp cal) jp cal) jp cal) jp cal) jp cal) jp cal) jp cal) jp cal) jp cal) jp cal) jp cal) jp cal,
  fun nx jp cal => o_ald 1 (o_ic 105 (o_ic 1 (o_newI (o_dup (o_ic 0 (o_ic 0 (o_iast (o_invS 127 3 (o_ald 4 (o_ic 0 (o_iald (o_if2 27 p_ne nx jp cal) jp cal) jp cal) jp cal) jp cal) jp cal) jp cal) jp cal) jp cal) jp cal) jp cal) jp cal) jp cal,
  fun nx jp cal => o_ald 1 (o_ic 105 (o_ic 1 (o_newI (o_dup (o_ic 0 (o_ic 1 (o_iast (o_invS 127 3 (o_ald 4 (o_ic 1 (o_iald (o_if2 27 p_ne nx jp cal) jp cal) jp cal) jp cal) jp cal) jp cal) jp cal) jp cal) jp cal) jp cal) jp cal) jp cal) jp cal,
  fun nx jp cal => o_ald 1 (o_invV 18 1 11 (o_if 28 p_eq0 nx jp cal) jp cal) jp cal,
  fun nx jp cal => o_ald 1 (o_ic 109 (o_ic 1 (o_newI (o_dup (o_ic 0 (o_ic 0 (o_iast (o_invS 127 3 (o_ic 4 (o_ald 5 (o_ic 0 (o_iald (o_bin f_sub (o_if2 27 p_ne nx jp cal) jp cal) jp cal) jp cal) jp cal) jp cal) jp cal) jp cal) jp cal) jp cal) jp cal) jp cal) jp cal) jp cal) jp cal,
  fun nx jp cal => o_ald 1 (o_ic 109 (o_ic 1 (o_newI (o_dup (o_ic 0 (o_ic 1 (o_iast (o_invS 127 3 (o_ic 4 (o_ald 5 (o_ic 1 (o_iald (o_bin f_sub (o_if2 28 p_eq nx jp cal) jp cal) jp cal) jp cal) jp cal) jp cal) jp cal) jp cal) jp cal) jp cal) jp cal) jp cal) jp cal) jp cal) jp cal,
  o_no,
  fun nx jp cal => o_inc 6 1 (o_go 3 nx jp cal) jp cal,
  fun nx jp cal => o_ald 4 (o_ic 0 (o_iald (o_ald 4 (o_ic 1 (o_iald (o_if2 31 p_le nx jp cal) jp cal) jp cal) jp cal) jp cal) jp cal) jp cal,
  o_no,
  fun nx jp cal => o_ic 0 (o_ist 5 (o_ald 4 (o_ic 0 (o_iald (o_ald 4 (o_ic 1 (o_iald (o_if2 33 p_ne nx jp cal) jp cal) jp cal) jp cal) jp cal) jp cal) jp cal) jp cal) jp cal,
  fun nx jp cal => o_ic 1 (o_go 34 nx jp cal) jp cal,
  o_no,
  fun nx jp cal => o_ist 6 (o_ald 1 (o_invV 18 1 11 (o_if 54 p_ne0 nx jp cal) jp cal) jp cal) jp cal,
  fun nx jp cal => o_ald 1 (o_ic 108 (o_ic 1 (o_newI (o_dup (o_ic 0 (o_ic 0 (o_iast (o_invS 127 3 (o_ild 7 (o_if 37 p_eq0 nx jp cal) jp cal) jp cal) jp cal) jp cal) jp cal) jp cal) jp cal) jp cal) jp cal) jp cal,
  fun nx jp cal => o_ic 3 (o_go 38 nx jp cal) jp cal,
  o_no,
  o_if2 54 p_ne,
  fun nx jp cal => o_ald 1 (o_ic 108 (o_ic 1 (o_newI (o_dup (o_ic 0 (o_ic 1 (o_iast (o_invS 127 3 (o_ild 7 (o_if 41 p_eq0 nx jp cal) jp cal) jp cal) jp cal) jp cal) jp cal) jp cal) jp cal) jp cal) jp cal) jp cal,
  fun nx jp cal => o_ic 3 (o_go 42 nx jp cal) jp cal,
  o_no,
  o_if2 54 p_ne,
  fun nx jp cal => o_ald 1 (o_ic 76 (o_ic 1 (o_newI (o_dup (o_ic 0 (o_ic 0 (o_iast (o_invS 127 3 (o_ild 6 (o_if 45 p_ne0 nx jp cal) jp cal) jp cal) jp cal) jp cal) jp cal) jp cal) jp cal) jp cal) jp cal) jp cal,
  fun nx jp cal => o_ild 7 (o_if 46 p_eq0 nx jp cal) jp cal,
  fun nx jp cal => o_ic 0 (o_go 47 nx jp cal) jp cal,
  o_no,
  o_if2 54 p_ne,
  fun nx jp cal => o_ald 1 (o_invV 16 1 11 (o_v (.inr (.inr (.inr (.inr (.inl 1065353216))))) (o_fcmp (o_if 54 p_ne0 nx jp cal) jp cal) jp cal) jp cal) jp cal,
  fun nx jp cal => o_ald 1 (o_ic 78 (o_ic 0 (o_newI (o_invS 127 3 (o_ic 12 (o_if2 54 p_ne nx jp cal) jp cal) jp cal) jp cal) jp cal) jp cal) jp cal,
  fun nx jp cal => o_ald 1 (o_ic 108 (o_ic 1 (o_newI (o_dup (o_ic 0 (o_ic 0 (o_iast (o_invS 127 3 (o_if 54 p_ne0 nx jp cal) jp cal) jp cal) jp cal) jp cal) jp cal) jp cal) jp cal) jp cal) jp cal,
  fun nx jp cal => o_ald 1 (o_ic 111 (o_ic 1 (o_newI (o_dup (o_ic 0 (o_ic 0 (o_iast (o_invS 127 3 (o_ic 4294967295 (o_if2 54 p_ne nx jp cal) jp cal) jp cal) jp cal) jp cal) jp cal) jp cal) jp cal) jp cal) jp cal) jp cal,
  fun nx jp cal => o_ald 1 (o_invV 22 1 11 (o_if 54 p_eq0 nx jp cal) jp cal) jp cal,
  fun nx jp cal => o_ic 1 (o_go 55 nx jp cal) jp cal,
  o_no,
  o_bret 1]
noncomputable def k_L_law : List Op := [fun nx jp cal => o_new 11 8 [.inr (.inl 0), .inr (.inl 0), .inr (.inl 0), .inr (.inl 0), .inr (.inl 0), .inr (.inl 0), .inr (.inl 0), .inr (.inl 0)] (o_dup (o_invI 0 1 (o_ast 0 (o_ald 1 (o_ic 1 (o_invS 129 2 (o_if 42 p_eq0 nx jp cal) jp cal) jp cal) jp cal) jp cal) jp cal) jp cal) jp cal,
  fun nx jp cal => o_ald 1 (o_ic 0 (o_invS 129 2 (o_if 42 p_eq0 nx jp cal) jp cal) jp cal) jp cal,
  fun nx jp cal => o_ald 1 (o_invV 18 1 11 (o_if 42 p_ne0 nx jp cal) jp cal) jp cal,
  fun nx jp cal => o_ald 1 (o_invV 45 1 11 (o_if 42 p_ne0 nx jp cal) jp cal) jp cal,
  fun nx jp cal => o_ald 1 (o_invV 12 1 11 (o_v (.inr (.inr (.inl 7))) (o_lcmp (o_if 42 p_ne0 nx jp cal) jp cal) jp cal) jp cal) jp cal,
  fun nx jp cal => o_ald 1 (o_invV 22 1 11 (o_if 42 p_eq0 nx jp cal) jp cal) jp cal,
  fun nx jp cal => o_ald 1 (o_ic 80 (o_ic 4 (o_newI (o_dup (o_ic 0 (o_ic 0 (o_iast (o_dup (o_ic 1 (o_ic 1 (o_iast (o_dup (o_ic 2 (o_ic 1 (o_iast (o_dup (o_ic 3 (o_ic 97 (o_iast (o_invS 127 3 (o_ic 2294967294 (o_if2 42 p_ne nx jp cal) jp cal) jp cal) jp cal) jp cal) jp cal) jp cal) jp cal) jp cal) jp cal) jp cal) jp cal) jp cal) jp cal) jp cal) jp cal) jp cal) jp cal) jp cal) jp cal) jp cal) jp cal) jp cal,
  fun nx jp cal => o_ald 1 (o_ic 80 (o_ic 4 (o_newI (o_dup (o_ic 0 (o_ic 1 (o_iast (o_dup (o_ic 1 (o_ic 10 (o_iast (o_dup (o_ic 2 (o_ic 1 (o_iast (o_dup (o_ic 3 (o_ic 97 (o_iast (o_invS 127 3 (o_ic 2294967294 (o_if2 42 p_ne nx jp cal) jp cal) jp cal) jp cal) jp cal) jp cal) jp cal) jp cal) jp cal) jp cal) jp cal) jp cal) jp cal) jp cal) jp cal) jp cal) jp cal) jp cal) jp cal) jp cal) jp cal) jp cal) jp cal,
  fun nx jp cal => o_ald 1 (o_ic 80 (o_ic 4 (o_newI (o_dup (o_ic 0 (o_ic 1 (o_iast (o_dup (o_ic 1 (o_ic 1 (o_iast (o_dup (o_ic 2 (o_ic 1 (o_iast (o_dup (o_ic 3 (o_ic 100 (o_iast (o_invS 127 3 (o_ic 2294967294 (o_if2 42 p_ne nx jp cal) jp cal) jp cal) jp cal) jp cal) jp cal) jp cal) jp cal) jp cal) jp cal) jp cal) jp cal) jp cal) jp cal) jp cal) jp cal) jp cal) jp cal) jp cal) jp cal) jp cal) jp cal) jp cal,
  fun nx jp cal => o_ald 1 (o_ic 85 (o_ic 1 (o_newI (o_dup (o_ic 0 (o_ic 0 (o_iast (o_invS 127 3 (o_ic 2294967295 (o_if2 42 p_ne nx jp cal) jp cal) jp cal) jp cal) jp cal) jp cal) jp cal) jp cal) jp cal) jp cal) jp cal,
  fun nx jp cal => o_ald 1 (o_ic 66 (o_ic 2 (o_newI (o_dup (o_ic 0 (o_ic 0 (o_iast (o_dup (o_ic 1 (o_ic 0 (o_iast (o_invS 127 3 (o_ic 2294967295 (o_if2 42 p_ne nx jp cal) jp cal) jp cal) jp cal) jp cal) jp cal) jp cal) jp cal) jp cal) jp cal) jp cal) jp cal) jp cal) jp cal) jp cal,
  fun nx jp cal => o_ald 1 (o_ic 77 (o_ic 1 (o_newI (o_dup (o_ic 0 (o_ic 0 (o_iast (o_invS 127 3 (o_ic 2294967295 (o_if2 42 p_ne nx jp cal) jp cal) jp cal) jp cal) jp cal) jp cal) jp cal) jp cal) jp cal) jp cal) jp cal,
  fun nx jp cal => o_ald 1 (o_ic 75 (o_ic 0 (o_newI (o_invS 127 3 (o_ic 2294967293 (o_if2 42 p_ne nx jp cal) jp cal) jp cal) jp cal) jp cal) jp cal) jp cal,
  fun nx jp cal => o_ald 1 (o_ic 111 (o_ic 1 (o_newI (o_dup (o_ic 0 (o_ic 0 (o_iast (o_invS 127 3 (o_ic 2294967295 (o_if2 42 p_ne nx jp cal) jp cal) jp cal) jp cal) jp cal) jp cal) jp cal) jp cal) jp cal) jp cal) jp cal,
  fun nx jp cal => o_ald 1 (o_ic 112 (o_ic 1 (o_newI (o_dup (o_ic 0 (o_ic 0 (o_iast (o_invS 127 3 (o_ic 2294967295 (o_if2 42 p_ne nx jp cal) jp cal) jp cal) jp cal) jp cal) jp cal) jp cal) jp cal) jp cal) jp cal) jp cal,
  fun nx jp cal => o_ald 1 (o_ic 78 (o_ic 0 (o_newI (o_invS 127 3 (o_if 42 p_ne0 nx jp cal) jp cal) jp cal) jp cal) jp cal) jp cal,
  fun nx jp cal => o_ald 1 (o_ic 69 (o_ic 4 (o_newI (o_dup (o_ic 0 (o_ic 2 (o_iast (o_dup (o_ic 1 (o_ic 6 (o_iast (o_dup (o_ic 2 (o_ic 1 (o_iast (o_dup (o_ic 3 (o_ic 10 (o_iast (o_invS 127 3 (o_ic 2294967294 (o_if2 42 p_ne nx jp cal) jp cal) jp cal) jp cal) jp cal) jp cal) jp cal) jp cal) jp cal) jp cal) jp cal) jp cal) jp cal) jp cal) jp cal) jp cal) jp cal) jp cal) jp cal) jp cal) jp cal) jp cal) jp cal,
  fun nx jp cal => o_ald 1 (o_ic 69 (o_ic 4 (o_newI (o_dup (o_ic 0 (o_ic 7 (o_iast (o_dup (o_ic 1 (o_ic 8 (o_iast (o_dup (o_ic 2 (o_ic 1 (o_iast (o_dup (o_ic 3 (o_ic 10 (o_iast (o_invS 127 3 (o_ic 2294967294 (o_if2 42 p_ne nx jp cal) jp cal) jp cal) jp cal) jp cal) jp cal) jp cal) jp cal) jp cal) jp cal) jp cal) jp cal) jp cal) jp cal) jp cal) jp cal) jp cal) jp cal) jp cal) jp cal) jp cal) jp cal) jp cal,
  fun nx jp cal => o_ald 1 (o_ic 69 (o_ic 4 (o_newI (o_dup (o_ic 0 (o_ic 7 (o_iast (o_dup (o_ic 1 (o_ic 6 (o_iast (o_dup (o_ic 2 (o_ic 1 (o_iast (o_dup (o_ic 3 (o_ic 9 (o_iast (o_invS 127 3 (o_ic 2294967294 (o_if2 42 p_ne nx jp cal) jp cal) jp cal) jp cal) jp cal) jp cal) jp cal) jp cal) jp cal) jp cal) jp cal) jp cal) jp cal) jp cal) jp cal) jp cal) jp cal) jp cal) jp cal) jp cal) jp cal) jp cal) jp cal,
  fun nx jp cal => o_ald 1 (o_ic 69 (o_ic 4 (o_newI (o_dup (o_ic 0 (o_ic 7 (o_iast (o_dup (o_ic 1 (o_ic 6 (o_iast (o_dup (o_ic 2 (o_ic 1 (o_iast (o_dup (o_ic 3 (o_ic 22 (o_iast (o_invS 127 3 (o_ic 2294967294 (o_if2 42 p_ne nx jp cal) jp cal) jp cal) jp cal) jp cal) jp cal) jp cal) jp cal) jp cal) jp cal) jp cal) jp cal) jp cal) jp cal) jp cal) jp cal) jp cal) jp cal) jp cal) jp cal) jp cal) jp cal) jp cal,
  fun nx jp cal => o_ald 1 (o_ic 71 (o_ic 3 (o_newI (o_dup (o_ic 0 (o_ic 0 (o_iast (o_dup (o_ic 1 (o_ic 0 (o_iast (o_dup (o_ic 2 (o_ic 0 (o_iast (o_invS 127 3 (o_ic 2294967295 (o_if2 42 p_ne nx jp cal) jp cal) jp cal) jp cal) jp cal) jp cal) jp cal) jp cal) jp cal) jp cal) jp cal) jp cal) jp cal) jp cal) jp cal) jp cal) jp cal) jp cal) jp cal,
  fun nx jp cal => o_ald 1 (o_ic 84 (o_ic 0 (o_newI (o_invS 127 3 (o_ic 2294967293 (o_if2 42 p_ne nx jp cal) jp cal) jp cal) jp cal) jp cal) jp cal) jp cal,
  fun nx jp cal => o_ald 1 (o_ic 105 (o_ic 1 (o_newI (o_dup (o_ic 0 (o_ic 0 (o_iast (o_invS 127 3 (o_if 42 p_ne0 nx jp cal) jp cal) jp cal) jp cal) jp cal) jp cal) jp cal) jp cal) jp cal) jp cal,
  fun nx jp cal => o_ald 1 (o_ic 105 (o_ic 1 (o_newI (o_dup (o_ic 0 (o_ic 2 (o_iast (o_invS 127 3 (o_ic 2294967294 (o_if2 42 p_ne nx jp cal) jp cal) jp cal) jp cal) jp cal) jp cal) jp cal) jp cal) jp cal) jp cal) jp cal,
  fun nx jp cal => o_ald 1 (o_ic 109 (o_ic 1 (o_newI (o_dup (o_ic 0 (o_ic 2 (o_iast (o_invS 127 3 (o_ic 2294967294 (o_if2 42 p_ne nx jp cal) jp cal) jp cal) jp cal) jp cal) jp cal) jp cal) jp cal) jp cal) jp cal) jp cal,
  fun nx jp cal => o_ald 1 (o_ic 109 (o_ic 1 (o_newI (o_dup (o_ic 0 (o_ic 0 (o_iast (o_invS 127 3 (o_ic 2294967293 (o_if2 42 p_ne nx jp cal) jp cal) jp cal) jp cal) jp cal) jp cal) jp cal) jp cal) jp cal) jp cal) jp cal,
  fun nx jp cal => o_ald 1 (o_ic 97 (o_ic 2 (o_newI (o_dup (o_ic 0 (o_ic 0 (o_iast (o_dup (o_ic 1 (o_ic 0 (o_iast (o_invS 127 3 (o_ic 2294967293 (o_if2 42 p_ne nx jp cal) jp cal) jp cal) jp cal) jp cal) jp cal) jp cal) jp cal) jp cal) jp cal) jp cal) jp cal) jp cal) jp cal) jp cal,
  fun nx jp cal => o_ald 1 (o_ic 117 (o_ic 2 (o_newI (o_dup (o_ic 0 (o_ic 0 (o_iast (o_dup (o_ic 1 (o_ic 0 (o_iast (o_invS 127 3 (o_ic 2294967293 (o_if2 42 p_ne nx jp cal) jp cal) jp cal) jp cal) jp cal) jp cal) jp cal) jp cal) jp cal) jp cal) jp cal) jp cal) jp cal) jp cal) jp cal,
  fun nx jp cal => o_ald 1 (o_ic 98 (o_ic 2 (o_newI (o_dup (o_ic 0 (o_ic 0 (o_iast (o_dup (o_ic 1 (o_ic 0 (o_iast (o_invS 127 3 (o_ic 2294967293 (o_if2 42 p_ne nx jp cal) jp cal) jp cal) jp cal) jp cal) jp cal) jp cal) jp cal) jp cal) jp cal) jp cal) jp cal) jp cal) jp cal) jp cal,
  fun nx jp cal => o_ald 1 (o_ic 82 (o_ic 1 (o_newI (o_dup (o_ic 0 (o_ic 0 (o_iast (o_invS 127 3 (o_ic 2294967295 (o_if2 42 p_ne nx jp cal) jp cal) jp cal) jp cal) jp cal) jp cal) jp cal) jp cal) jp cal) jp cal) jp cal,
  fun nx jp cal => o_ald 1 (o_ic 116 (o_ic 3 (o_newI (o_dup (o_ic 0 (o_ic 0 (o_iast (o_dup (o_ic 1 (o_ic 1 (o_iast (o_dup (o_ic 2 (o_ic 1 (o_iast (o_invS 127 3 (o_ic 2294967295 (o_if2 42 p_ne nx jp cal) jp cal) jp cal) jp cal) jp cal) jp cal) jp cal) jp cal) jp cal) jp cal) jp cal) jp cal) jp cal) jp cal) jp cal) jp cal) jp cal) jp cal) jp cal,
  fun nx jp cal => o_ald 1 (o_ic 110 (o_ic 0 (o_newI (o_invS 127 3 (o_ic 2294967293 (o_if2 42 p_ne nx jp cal) jp cal) jp cal) jp cal) jp cal) jp cal) jp cal,
  fun nx jp cal => o_ald 1 (o_ic 115 (o_ic 1 (o_newI (o_dup (o_ic 0 (o_ic 0 (o_iast (o_invS 127 3 (o_ic 2294967293 (o_if2 42 p_ne nx jp cal) jp cal) jp cal) jp cal) jp cal) jp cal) jp cal) jp cal) jp cal) jp cal) jp cal,
  fun nx jp cal => o_ald 1 (o_ic 88 (o_ic 1 (o_newI (o_dup (o_ic 0 (o_ic 0 (o_iast (o_invS 127 3 (o_ic 2294967295 (o_if2 42 p_ne nx jp cal) jp cal) jp cal) jp cal) jp cal) jp cal) jp cal) jp cal) jp cal) jp cal) jp cal,
  fun nx jp cal => o_ald 1 (o_ic 67 (o_ic 0 (o_newI (o_invS 127 3 (o_ic 2294967293 (o_if2 42 p_ne nx jp cal) jp cal) jp cal) jp cal) jp cal) jp cal) jp cal,
  fun nx jp cal => o_ald 1 (o_ic 99 (o_ic 2 (o_newI (o_dup (o_ic 0 (o_ic 0 (o_iast (o_dup (o_ic 1 (o_ic 120 (o_iast (o_invS 127 3 (o_ic 2294967295 (o_if2 42 p_ne nx jp cal) jp cal) jp cal) jp cal) jp cal) jp cal) jp cal) jp cal) jp cal) jp cal) jp cal) jp cal) jp cal) jp cal) jp cal,
  fun nx jp cal => o_ald 1 (o_ic 90 (o_ic 2 (o_newI (o_dup (o_ic 0 (o_ic 0 (o_iast (o_dup (o_ic 1 (o_ic 0 (o_iast (o_invS 127 3 (o_ic 2294967295 (o_if2 42 p_ne nx jp cal) jp cal) jp cal) jp cal) jp cal) jp cal) jp cal) jp cal) jp cal) jp cal) jp cal) jp cal) jp cal) jp cal) jp cal,
  fun nx jp cal => o_ald 1 (o_ic 86 (o_ic 2 (o_newI (o_dup (o_ic 0 (o_ic 2 (o_iast (o_dup (o_ic 1 (o_ic 0 (o_iast (o_invS 127 3 (o_ic 2294967295 (o_if2 42 p_ne nx jp cal) jp cal) jp cal) jp cal) jp cal) jp cal) jp cal) jp cal) jp cal) jp cal) jp cal) jp cal) jp cal) jp cal) jp cal,
  fun nx jp cal => o_ald 1 (o_ic 100 (o_ic 2 (o_newI (o_dup (o_ic 0 (o_ic 0 (o_iast (o_dup (o_ic 1 (o_ic 120 (o_iast (o_invS 127 3 (o_ic 2294967295 (o_if2 42 p_ne nx jp cal) jp cal) jp cal) jp cal) jp cal) jp cal) jp cal) jp cal) jp cal) jp cal) jp cal) jp cal) jp cal) jp cal) jp cal,
  fun nx jp cal => o_ald 1 (o_ic 108 (o_ic 1 (o_newI (o_dup (o_ic 0 (o_ic 0 (o_iast (o_invS 127 3 (o_ic 2294967295 (o_if2 42 p_ne nx jp cal) jp cal) jp cal) jp cal) jp cal) jp cal) jp cal) jp cal) jp cal) jp cal) jp cal,
  fun nx jp cal => o_ald 1 (o_ic 76 (o_ic 1 (o_newI (o_dup (o_ic 0 (o_ic 0 (o_iast (o_invS 127 3 (o_ic 2294967291 (o_if2 42 p_ne nx jp cal) jp cal) jp cal) jp cal) jp cal) jp cal) jp cal) jp cal) jp cal) jp cal) jp cal,
  fun nx jp cal => o_ald 1 (o_ic 70 (o_ic 0 (o_newI (o_invS 127 3 (o_ic 2294967292 (o_if2 43 p_eq nx jp cal) jp cal) jp cal) jp cal) jp cal) jp cal) jp cal,
  o_no,
  fun nx jp cal => o_sld 0 (o_no nx jp cal) jp cal,
  o_if 50 p_eq0,
  fun nx jp cal => o_sld 0 (o_no nx jp cal) jp cal,
  o_if 50 p_eq0,
  fun nx jp cal => o_sld 0 (o_no nx jp cal) jp cal,
  o_if 50 p_eq0,
  fun nx jp cal => o_ic 1 (o_go 51 nx jp cal) jp cal,
  o_no,
  o_bret 1]
noncomputable def k_L_reviews (v10 : Nat) (v11 : Nat) : List Op := [fun nx jp cal => o_new 11 8 [.inr (.inl 0), .inr (.inl 0), .inr (.inl 0), .inr (.inl 0), .inr (.inl 0), .inr (.inl 0), .inr (.inl 0), .inr (.inl 0)] (o_dup (o_invI 0 1 (o_ast 0 (o_ald 1 (o_ic 9 (o_ic 20 (o_invS 128 3 (o_if 4 p_eq0 nx jp cal) jp cal) jp cal) jp cal) jp cal) jp cal) jp cal) jp cal) jp cal,
  fun nx jp cal => o_ald 1 (o_ic 86 (o_ic 2 (o_newI (o_dup (o_ic 0 (o_ic 0 (o_iast (o_dup (o_ic 1 (o_ic 1 (o_iast (o_invS 127 3 (o_ic 2294967293 (o_if2 4 p_ne nx jp cal) jp cal) jp cal) jp cal) jp cal) jp cal) jp cal) jp cal) jp cal) jp cal) jp cal) jp cal) jp cal) jp cal) jp cal,
  fun nx jp cal => o_ald 1 (o_ic 82 (o_ic 1 (o_newI (o_dup (o_ic 0 (o_ic 0 (o_iast (o_invS 127 3 (o_if 4 p_ne0 nx jp cal) jp cal) jp cal) jp cal) jp cal) jp cal) jp cal) jp cal) jp cal) jp cal,
  fun nx jp cal => o_ald 1 (o_ic 86 (o_ic 2 (o_newI (o_dup (o_ic 0 (o_ic 0 (o_iast (o_dup (o_ic 1 (o_ic 1 (o_iast (o_invS 127 3 (o_ic 2294967293 (o_if2 5 p_eq nx jp cal) jp cal) jp cal) jp cal) jp cal) jp cal) jp cal) jp cal) jp cal) jp cal) jp cal) jp cal) jp cal) jp cal) jp cal,
  o_no,
  fun nx jp cal => o_sld 0 (o_ic 10 (o_sat 10 (o_ic 64 (o_some 10 64 v10 (o_ist 1 (o_ic 0 (o_ist 2 (o_ic 0 (o_ist 3 nx jp cal) jp cal) jp cal) jp cal) jp cal) jp cal) jp cal) jp cal) jp cal) jp cal,
  fun nx jp cal => o_ild 4 (o_ic 3 (o_if2 27 p_ge nx jp cal) jp cal) jp cal,
  fun nx jp cal => o_ild 2 (o_ild 4 (o_shr (o_ic 1 (o_bin f_and (o_ic 1 (o_if2 9 p_ne nx jp cal) jp cal) jp cal) jp cal) jp cal) jp cal) jp cal,
  fun nx jp cal => o_ic 1 (o_go 10 nx jp cal) jp cal,
  o_ic 0,
  fun nx jp cal => o_ist 4 (o_ild 2 (o_ic 3 (o_ild 4 (o_bin f_add (o_shr (o_ic 1 (o_bin f_and (o_ic 1 (o_if2 12 p_ne nx jp cal) jp cal) jp cal) jp cal) jp cal) jp cal) jp cal) jp cal) jp cal) jp cal,
  fun nx jp cal => o_ic 1 (o_go 13 nx jp cal) jp cal,
  o_ic 0,
  fun nx jp cal => o_ist 5 (o_ild 3 (o_ild 6 (o_if 15 p_eq0 nx jp cal) jp cal) jp cal) jp cal,
  fun nx jp cal => o_ic 1 (o_go 16 nx jp cal) jp cal,
  o_ic 0,
  fun nx jp cal => o_bin f_add (o_ist 2 (o_ald 1 (o_ic 116 (o_ic 3 (o_newI (o_dup (o_ic 0 (o_ic 1 (o_ic 2 (o_ild 4 (o_bin f_mul (o_bin f_add (o_iast (o_dup (o_ic 1 (o_ild 5 (o_if 18 p_eq0 nx jp cal) jp cal) jp cal) jp cal) jp cal) jp cal) jp cal) jp cal) jp cal) jp cal) jp cal) jp cal) jp cal) jp cal) jp cal) jp cal) jp cal) jp cal,
  fun nx jp cal => o_ic 1 (o_go 19 nx jp cal) jp cal,
  o_ic 0,
  fun nx jp cal => o_iast (o_dup (o_ic 2 (o_ild 6 (o_if 21 p_eq0 nx jp cal) jp cal) jp cal) jp cal) jp cal,
  fun nx jp cal => o_ic 1 (o_go 22 nx jp cal) jp cal,
  o_ic 0,
  fun nx jp cal => o_iast (o_invS 127 3 (o_ic 2 (o_ild 4 (o_bin f_mul (o_ic 2 (o_bin f_add (o_if2 25 p_ne nx jp cal) jp cal) jp cal) jp cal) jp cal) jp cal) jp cal) jp cal,
  fun nx jp cal => o_ald 1 (o_ic 116 (o_ic 3 (o_newI (o_dup (o_ic 0 (o_ic 1 (o_ic 2 (o_ild 4 (o_bin f_mul (o_bin f_add (o_iast (o_dup (o_ic 1 (o_ic 1 (o_iast (o_dup (o_ic 2 (o_ic 1 (o_iast (o_invS 127 3 (o_ic 2294967292 (o_if2 25 p_ne nx jp cal) jp cal) jp cal) jp cal) jp cal) jp cal) jp cal) jp cal) jp cal) jp cal) jp cal) jp cal) jp cal) jp cal) jp cal) jp cal) jp cal) jp cal) jp cal) jp cal) jp cal) jp cal) jp cal,
  fun nx jp cal => o_ald 1 (o_ic 116 (o_ic 3 (o_newI (o_dup (o_ic 0 (o_ic 0 (o_iast (o_dup (o_ic 1 (o_ic 1 (o_iast (o_dup (o_ic 2 (o_ic 1 (o_iast (o_invS 127 3 (o_ic 2294967292 (o_if2 26 p_eq nx jp cal) jp cal) jp cal) jp cal) jp cal) jp cal) jp cal) jp cal) jp cal) jp cal) jp cal) jp cal) jp cal) jp cal) jp cal) jp cal) jp cal) jp cal) jp cal,
  o_no,
  fun nx jp cal => o_inc 4 1 (o_go 6 nx jp cal) jp cal,
  fun nx jp cal => o_ald 1 (o_ic 110 (o_ic 0 (o_newI (o_invS 127 3 (o_ic 2294967292 (o_if2 38 p_ne nx jp cal) jp cal) jp cal) jp cal) jp cal) jp cal) jp cal,
  fun nx jp cal => o_ald 1 (o_ic 67 (o_ic 0 (o_newI (o_invS 127 3 (o_ild 3 (o_if2 38 p_ne nx jp cal) jp cal) jp cal) jp cal) jp cal) jp cal) jp cal,
  fun nx jp cal => o_ald 1 (o_ic 105 (o_ic 1 (o_newI (o_dup (o_ic 0 (o_ic 0 (o_iast (o_invS 127 3 (o_ild 3 (o_if2 38 p_ne nx jp cal) jp cal) jp cal) jp cal) jp cal) jp cal) jp cal) jp cal) jp cal) jp cal) jp cal,
  fun nx jp cal => o_ald 1 (o_ic 109 (o_ic 1 (o_newI (o_dup (o_ic 0 (o_ic 1 (o_iast (o_invS 127 3 (o_ic 4 (o_ild 3 (o_bin f_sub (o_if2 38 p_ne nx jp cal) jp cal) jp cal) jp cal) jp cal) jp cal) jp cal) jp cal) jp cal) jp cal) jp cal) jp cal) jp cal,
  fun nx jp cal => o_ald 1 (o_ic 100 (o_ic 2 (o_newI (o_dup (o_ic 0 (o_ic 0 (o_iast (o_dup (o_ic 1 (o_ic 114 (o_iast (o_invS 127 3 (o_ild 3 (o_if2 38 p_ne nx jp cal) jp cal) jp cal) jp cal) jp cal) jp cal) jp cal) jp cal) jp cal) jp cal) jp cal) jp cal) jp cal) jp cal) jp cal,
  fun nx jp cal => o_ald 1 (o_ic 100 (o_ic 2 (o_newI (o_dup (o_ic 0 (o_ic 0 (o_iast (o_dup (o_ic 1 (o_ic 115 (o_iast (o_invS 127 3 (o_ild 3 (o_ic 3 (o_if2 34 p_ne nx jp cal) jp cal) jp cal) jp cal) jp cal) jp cal) jp cal) jp cal) jp cal) jp cal) jp cal) jp cal) jp cal) jp cal) jp cal) jp cal,
  fun nx jp cal => o_ic 1 (o_go 35 nx jp cal) jp cal,
  o_ic 0,
  o_if2 38 p_ne,
  fun nx jp cal => o_ald 1 (o_ic 100 (o_ic 2 (o_newI (o_dup (o_ic 0 (o_ic 0 (o_iast (o_dup (o_ic 1 (o_ic 110 (o_iast (o_invS 127 3 (o_ic 1 (o_if2 38 p_ne nx jp cal) jp cal) jp cal) jp cal) jp cal) jp cal) jp cal) jp cal) jp cal) jp cal) jp cal) jp cal) jp cal) jp cal) jp cal,
  fun nx jp cal => o_ald 1 (o_ic 100 (o_ic 2 (o_newI (o_dup (o_ic 0 (o_ic 0 (o_iast (o_dup (o_ic 1 (o_ic 116 (o_iast (o_invS 127 3 (o_if 39 p_eq0 nx jp cal) jp cal) jp cal) jp cal) jp cal) jp cal) jp cal) jp cal) jp cal) jp cal) jp cal) jp cal) jp cal) jp cal,
  o_no,
  fun nx jp cal => o_sld 0 (o_ic 11 (o_sat 11 (o_ic 2 (o_some 11 2 v11 (o_ist 3 (o_ild 3 (o_ist 4 (o_ic 4 (o_ild 3 (o_bin f_sub (o_ist 5 (o_ic 0 (o_ist 6 (o_ald 1 (o_ic 86 (o_ic 2 (o_newI (o_dup (o_ic 0 (o_ild 4 (o_iast (o_dup (o_ic 1 (o_ic 7 (o_iast (o_invS 127 3 (o_ic 2294967292 (o_if2 42 p_ne nx jp cal) jp cal) jp cal) jp cal) jp cal) jp cal) jp cal) jp cal) jp cal) jp cal) jp cal) jp cal) jp cal) jp cal) jp cal) jp cal) jp cal) jp cal) jp cal) jp cal) jp cal) jp cal) jp cal) jp cal) jp cal) jp cal) jp cal) jp cal) jp cal,
  fun nx jp cal => o_ald 1 (o_ic 86 (o_ic 2 (o_newI (o_dup (o_ic 0 (o_ic 2 (o_iast (o_dup (o_ic 1 (o_ic 1 (o_iast (o_invS 127 3 (o_ic 2294967294 (o_if2 42 p_ne nx jp cal) jp cal) jp cal) jp cal) jp cal) jp cal) jp cal) jp cal) jp cal) jp cal) jp cal) jp cal) jp cal) jp cal) jp cal,
  fun nx jp cal => o_ald 1 (o_ic 86 (o_ic 2 (o_newI (o_dup (o_ic 0 (o_ic 2 (o_iast (o_dup (o_ic 1 (o_ic 99 (o_iast (o_invS 127 3 (o_ic 2294967295 (o_if2 43 p_eq nx jp cal) jp cal) jp cal) jp cal) jp cal) jp cal) jp cal) jp cal) jp cal) jp cal) jp cal) jp cal) jp cal) jp cal) jp cal,
  o_no,
  fun nx jp cal => o_ic 0 (o_ist 7 nx jp cal) jp cal,
  fun nx jp cal => o_ild 8 (o_ic 3 (o_if2 78 p_ge nx jp cal) jp cal) jp cal,
  fun nx jp cal => o_ild 2 (o_ild 8 (o_shr (o_ic 1 (o_bin f_and (o_ic 1 (o_if2 47 p_ne nx jp cal) jp cal) jp cal) jp cal) jp cal) jp cal) jp cal,
  fun nx jp cal => o_ic 1 (o_go 48 nx jp cal) jp cal,
  o_ic 0,
  fun nx jp cal => o_ist 8 (o_ild 2 (o_ic 3 (o_ild 8 (o_bin f_add (o_shr (o_ic 1 (o_bin f_and (o_ic 1 (o_if2 50 p_ne nx jp cal) jp cal) jp cal) jp cal) jp cal) jp cal) jp cal) jp cal) jp cal) jp cal,
  fun nx jp cal => o_ic 1 (o_go 51 nx jp cal) jp cal,
  o_ic 0,
  fun nx jp cal => o_ist 9 (o_ild 9 (o_ild 10 (o_if2 53 p_eq nx jp cal) jp cal) jp cal) jp cal,
  fun nx jp cal => o_ic 1 (o_go 54 nx jp cal) jp cal,
  o_ic 0,
  fun nx jp cal => o_ist 10 (o_ild 7 (o_if 56 p_eq0 nx jp cal) jp cal) jp cal,
  fun nx jp cal => o_ic 2294967292 (o_go 59 nx jp cal) jp cal,
  fun nx jp cal => o_ild 11 (o_if 58 p_eq0 nx jp cal) jp cal,
  fun nx jp cal => o_ic 1 (o_go 59 nx jp cal) jp cal,
  o_ic 0,
  fun nx jp cal => o_ist 11 (o_ald 1 (o_ic 86 (o_ic 2 (o_newI (o_dup (o_ic 0 (o_ild 4 (o_iast (o_dup (o_ic 1 (o_ic 1 (o_ic 2 (o_ild 8 (o_bin f_mul (o_bin f_add (o_iast (o_invS 127 3 (o_ild 12 (o_if2 61 p_eq nx jp cal) jp cal) jp cal) jp cal) jp cal) jp cal) jp cal) jp cal) jp cal) jp cal) jp cal) jp cal) jp cal) jp cal) jp cal) jp cal) jp cal) jp cal) jp cal) jp cal,
  o_no,
  fun nx jp cal => o_ild 12 (o_ic 1 (o_if2 69 p_ne nx jp cal) jp cal) jp cal,
  fun nx jp cal => o_ild 5 (o_ild 9 (o_if 64 p_eq0 nx jp cal) jp cal) jp cal,
  fun nx jp cal => o_ic 1 (o_go 65 nx jp cal) jp cal,
  o_ic 4294967295,
  fun nx jp cal => o_bin f_add (o_ist 4 (o_ild 6 (o_ild 9 (o_if 67 p_eq0 nx jp cal) jp cal) jp cal) jp cal) jp cal,
  fun nx jp cal => o_ic 4294967295 (o_go 68 nx jp cal) jp cal,
  o_ic 1,
  fun nx jp cal => o_bin f_add (o_ist 5 nx jp cal) jp cal,
  fun nx jp cal => o_ild 7 (o_if 71 p_ne0 nx jp cal) jp cal,
  fun nx jp cal => o_ild 11 (o_if 72 p_ne0 nx jp cal) jp cal,
  fun nx jp cal => o_ic 1 (o_go 73 nx jp cal) jp cal,
  o_ic 0,
  fun nx jp cal => o_ist 6 (o_ald 1 (o_ic 86 (o_ic 2 (o_newI (o_dup (o_ic 0 (o_ild 4 (o_iast (o_dup (o_ic 1 (o_ic 1 (o_ic 2 (o_ild 8 (o_bin f_mul (o_bin f_add (o_iast (o_invS 127 3 (o_ic 2294967292 (o_if2 76 p_ne nx jp cal) jp cal) jp cal) jp cal) jp cal) jp cal) jp cal) jp cal) jp cal) jp cal) jp cal) jp cal) jp cal) jp cal) jp cal) jp cal) jp cal) jp cal) jp cal) jp cal,
  fun nx jp cal => o_ald 1 (o_ic 105 (o_ic 1 (o_newI (o_dup (o_ic 0 (o_ic 0 (o_iast (o_invS 127 3 (o_ild 5 (o_if2 76 p_ne nx jp cal) jp cal) jp cal) jp cal) jp cal) jp cal) jp cal) jp cal) jp cal) jp cal) jp cal,
  fun nx jp cal => o_ald 1 (o_ic 109 (o_ic 1 (o_newI (o_dup (o_ic 0 (o_ic 1 (o_iast (o_invS 127 3 (o_ild 6 (o_if2 77 p_eq nx jp cal) jp cal) jp cal) jp cal) jp cal) jp cal) jp cal) jp cal) jp cal) jp cal) jp cal,
  o_no,
  fun nx jp cal => o_inc 8 1 (o_go 44 nx jp cal) jp cal,
  fun nx jp cal => o_ald 1 (o_ic 100 (o_ic 2 (o_newI (o_dup (o_ic 0 (o_ic 0 (o_iast (o_dup (o_ic 1 (o_ic 114 (o_iast (o_invS 127 3 (o_ild 3 (o_if2 82 p_ne nx jp cal) jp cal) jp cal) jp cal) jp cal) jp cal) jp cal) jp cal) jp cal) jp cal) jp cal) jp cal) jp cal) jp cal) jp cal,
  fun nx jp cal => o_ald 1 (o_invV 28 1 11 (o_ild 3 (o_i2d (o_dcmp (o_if 82 p_ne0 nx jp cal) jp cal) jp cal) jp cal) jp cal) jp cal,
  fun nx jp cal => o_ald 1 (o_invV 22 1 11 (o_if 82 p_eq0 nx jp cal) jp cal) jp cal,
  fun nx jp cal => o_ic 1 (o_go 83 nx jp cal) jp cal,
  o_no,
  o_bret 1]
noncomputable def t_X11_init : En := ((k_X11_init, []), (yX11_init, (cX11_init, (1, (none, [])))))
noncomputable def t_X11_allOut : En := ((k_X11_allOut, []), (yX11_allOut, (cX11_allOut, (3, ((Option.some FieldType.int), [])))))
noncomputable def t_X11_arePursesRight : En := ((k_X11_arePursesRight, [.inr (.inr (.inr (.inr (.inr 2)))), .inr (.inr (.inr (.inr (.inr 2))))]), (yX11_arePursesRight, (cX11_arePursesRight, (3, ((Option.some FieldType.boolean), [])))))
noncomputable def t_X11_baseOf : En := ((k_X11_baseOf, []), (yX11_baseOf, (cX11_baseOf, (1, ((Option.some FieldType.int), [])))))
noncomputable def t_X11_begin : En := ((k_X11_begin, []), (yX11_begin, (cX11_begin, (4, ((Option.some FieldType.int), [])))))
noncomputable def t_X11_benchAt : En := ((k_X11_benchAt, []), (yX11_benchAt, (cX11_benchAt, (3, ((Option.some FieldType.int), [])))))
noncomputable def t_X11_bid : En := ((k_X11_bid, []), (yX11_bid, (cX11_bid, (3, ((Option.some FieldType.int), [])))))
noncomputable def t_X11_bonus : En := ((k_X11_bonus, []), (yX11_bonus, (cX11_bonus, (1, ((Option.some FieldType.int), [])))))
noncomputable def t_X11_bringHome : En := ((k_X11_bringHome, [.inr (.inr (.inr (.inr (.inr 2))))]), (yX11_bringHome, (cX11_bringHome, (2, (none, [])))))
noncomputable def t_X11_canTake : En := ((k_X11_canTake, []), (yX11_canTake, (cX11_canTake, (3, ((Option.some FieldType.boolean), [])))))
noncomputable def t_X11_card : En := ((k_X11_card, [.inr (.inr (.inr (.inr (.inr 2)))), .inr (.inr (.inr (.inr (.inr 2)))), .inr (.inr (.inr (.inr (.inr 2))))]), (yX11_card, (cX11_card, (6, ((Option.some FieldType.char), [])))))
noncomputable def t_X11_champion : En := ((k_X11_champion, [.inr (.inr (.inr (.inr (.inr 2))))]), (yX11_champion, (cX11_champion, (2, ((Option.some FieldType.int), [])))))
noncomputable def t_X11_checksum : En := ((k_X11_checksum, [.inr (.inr (.inr (.inr (.inr 2)))), .inr (.inr (.inr (.inr (.inr 2))))]), (yX11_checksum, (cX11_checksum, (3, ((Option.some FieldType.long), [])))))
noncomputable def t_X11_closeRaid : En := ((k_X11_closeRaid, [.inr (.inr (.inr (.inr (.inr 2)))), .inr (.inr (.inr (.inr (.inr 2)))), .inr (.inr (.inr (.inr (.inr 2))))]), (yX11_closeRaid, (cX11_closeRaid, (8, (none, [])))))
noncomputable def t_X11_comeBack : En := ((k_X11_comeBack, []), (yX11_comeBack, (cX11_comeBack, (1, ((Option.some FieldType.int), [])))))
noncomputable def t_X11_edition : En := ((k_X11_edition, [.inr (.inr (.inr (.inr (.inr 2))))]), (yX11_edition, (cX11_edition, (6, ((Option.some FieldType.int), [])))))
noncomputable def t_X11_emptyShare : En := ((k_X11_emptyShare, []), (yX11_emptyShare, (cX11_emptyShare, (1, ((Option.some FieldType.float), [])))))
noncomputable def t_X11_endSittings : En := ((k_X11_endSittings, [.inr (.inr (.inr (.inr (.inr 2)))), .inr (.inr (.inr (.inr (.inr 2))))]), (yX11_endSittings, (cX11_endSittings, (3, (none, [])))))
noncomputable def t_X11_goesOn : En := ((k_X11_goesOn, []), (yX11_goesOn, (cX11_goesOn, (1, ((Option.some FieldType.boolean), [])))))
noncomputable def t_X11_isAbility : En := ((k_X11_isAbility, []), (yX11_isAbility, (cX11_isAbility, (1, ((Option.some FieldType.boolean), [])))))
noncomputable def t_X11_isEachInOnePlace : En := ((k_X11_isEachInOnePlace, [.inr (.inr (.inr (.inr (.inr 2)))), .inr (.inr (.inr (.inr (.inr 2)))), .inr (.inr (.inr (.inr (.inr 2)))), .inr (.inr (.inr (.inr (.inr 2))))]), (yX11_isEachInOnePlace, (cX11_isEachInOnePlace, (5, ((Option.some FieldType.boolean), [])))))
noncomputable def t_X11_isEachInOneSquad : En := ((k_X11_isEachInOneSquad, [.inr (.inr (.inr (.inr (.inr 2)))), .inr (.inr (.inr (.inr (.inr 2))))]), (yX11_isEachInOneSquad, (cX11_isEachInOneSquad, (3, ((Option.some FieldType.boolean), [])))))
noncomputable def t_X11_isTrue : En := ((k_X11_isTrue, []), (yX11_isTrue, (cX11_isTrue, (1, ((Option.some FieldType.boolean), [])))))
noncomputable def t_X11_knockDown : En := ((k_X11_knockDown, [.inr (.inr (.inr (.inr (.inr 2))))]), (yX11_knockDown, (cX11_knockDown, (2, ((Option.some FieldType.int), [])))))
noncomputable def t_X11_league : En := ((k_X11_league, []), (yX11_league, (cX11_league, (2, ((Option.some FieldType.int), [])))))
noncomputable def t_X11_lowestBid : En := ((k_X11_lowestBid, []), (yX11_lowestBid, (cX11_lowestBid, (1, ((Option.some FieldType.int), [])))))
noncomputable def t_X11_matAt : En := ((k_X11_matAt, []), (yX11_matAt, (cX11_matAt, (3, ((Option.some FieldType.int), [])))))
noncomputable def t_X11_match : En := ((k_X11_match, [.inr (.inr (.inr (.inr (.inr 2))))]), (yX11_match, (cX11_match, (3, ((Option.some FieldType.int), [])))))
noncomputable def t_X11_meanPoints : En := ((k_X11_meanPoints, []), (yX11_meanPoints, (cX11_meanPoints, (1, ((Option.some FieldType.double), [])))))
noncomputable def t_X11_needPause : En := ((k_X11_needPause, []), (yX11_needPause, (cX11_needPause, (1, (none, [])))))
noncomputable def t_X11_needPlayer : En := ((k_X11_needPlayer, []), (yX11_needPlayer, (cX11_needPlayer, (2, (none, [])))))
noncomputable def t_X11_needRaid : En := ((k_X11_needRaid, []), (yX11_needRaid, (cX11_needRaid, (1, (none, [])))))
noncomputable def t_X11_needSide : En := ((k_X11_needSide, []), (yX11_needSide, (cX11_needSide, (1, (none, [])))))
noncomputable def t_X11_needSquad : En := ((k_X11_needSquad, []), (yX11_needSquad, (cX11_needSquad, (2, (none, [])))))
noncomputable def t_X11_onMat : En := ((k_X11_onMat, []), (yX11_onMat, (cX11_onMat, (2, ((Option.some FieldType.int), [])))))
noncomputable def t_X11_outAt : En := ((k_X11_outAt, []), (yX11_outAt, (cX11_outAt, (3, ((Option.some FieldType.int), [])))))
noncomputable def t_X11_placed : En := ((k_X11_placed, []), (yX11_placed, (cX11_placed, (2, ((Option.some FieldType.int), [])))))
noncomputable def t_X11_player : En := ((k_X11_player, []), (yX11_player, (cX11_player, (5, ((Option.some FieldType.int), [])))))
noncomputable def t_X11_playingSide : En := ((k_X11_playingSide, []), (yX11_playingSide, (cX11_playingSide, (2, ((Option.some (FieldType.object "Raidline$Side")), [])))))
noncomputable def t_X11_points : En := ((k_X11_points, []), (yX11_points, (cX11_points, (2, ((Option.some FieldType.int), [])))))
noncomputable def t_X11_present : En := ((k_X11_present, []), (yX11_present, (cX11_present, (1, ((Option.some FieldType.int), [])))))
noncomputable def t_X11_purse : En := ((k_X11_purse, []), (yX11_purse, (cX11_purse, (2, ((Option.some FieldType.int), [])))))
noncomputable def t_X11_putRight : En := ((k_X11_putRight, [.inr (.inr (.inr (.inr (.inr 2))))]), (yX11_putRight, (cX11_putRight, (3, (none, [])))))
noncomputable def t_X11_putUp : En := ((k_X11_putUp, []), (yX11_putUp, (cX11_putUp, (2, ((Option.some FieldType.int), [])))))
noncomputable def t_X11_raid : En := ((k_X11_raid, []), (yX11_raid, (cX11_raid, (2, ((Option.some FieldType.boolean), [])))))
noncomputable def t_X11_raids : En := ((k_X11_raids, []), (yX11_raids, (cX11_raids, (1, ((Option.some FieldType.int), [])))))
noncomputable def t_X11_review : En := ((k_X11_review, []), (yX11_review, (cX11_review, (3, ((Option.some FieldType.boolean), [])))))
noncomputable def t_X11_season : En := ((k_X11_season, []), (yX11_season, (cX11_season, (1, ((Option.some FieldType.int), [])))))
noncomputable def t_X11_sell : En := ((k_X11_sell, []), (yX11_sell, (cX11_sell, (4, (none, [])))))
noncomputable def t_X11_squad : En := ((k_X11_squad, []), (yX11_squad, (cX11_squad, (1, ((Option.some FieldType.int), [])))))
noncomputable def t_X11_squadOf : En := ((k_X11_squadOf, []), (yX11_squadOf, (cX11_squadOf, (2, ((Option.some FieldType.int), [])))))
noncomputable def t_X11_stepOut : En := ((k_X11_stepOut, [.inr (.inr (.inr (.inr (.inr 2))))]), (yX11_stepOut, (cX11_stepOut, (3, ((Option.some FieldType.int), [])))))
noncomputable def t_X11_struggle : En := ((k_X11_struggle, [.inr (.inr (.inr (.inr (.inr 2)))), .inr (.inr (.inr (.inr (.inr 2))))]), (yX11_struggle, (cX11_struggle, (4, ((Option.some FieldType.int), [])))))
noncomputable def t_X11_substitute : En := ((k_X11_substitute, [.inr (.inr (.inr (.inr (.inr 2))))]), (yX11_substitute, (cX11_substitute, (4, ((Option.some FieldType.int), [])))))
noncomputable def t_X11_takeTouched : En := ((k_X11_takeTouched, [.inr (.inr (.inr (.inr (.inr 2))))]), (yX11_takeTouched, (cX11_takeTouched, (4, (none, [])))))
noncomputable def t_X11_told : En := ((k_X11_told, []), (yX11_told, (cX11_told, (3, ((Option.some FieldType.int), [])))))
noncomputable def t_X11_touch : En := ((k_X11_touch, [.inr (.inr (.inr (.inr (.inr 2))))]), (yX11_touch, (cX11_touch, (5, ((Option.some FieldType.int), [])))))
noncomputable def t_X11_turn : En := ((k_X11_turn, []), (yX11_turn, (cX11_turn, (1, ((Option.some FieldType.int), [])))))
noncomputable def t_X11_wouldEmptyMat : En := ((k_X11_wouldEmptyMat, [.inr (.inr (.inr (.inr (.inr 2))))]), (yX11_wouldEmptyMat, (cX11_wouldEmptyMat, (3, ((Option.some FieldType.boolean), [])))))
noncomputable def t_X0_init : En := ((k_X0_init, []), (yX0_init, (cX0_init, (1, (none, [])))))
noncomputable def t_X0_close : En := ((k_X0_close, []), (yX0_close, (cX0_close, (1, (none, [])))))
noncomputable def t_X0_isOpen : En := ((k_X0_isOpen, []), (yX0_isOpen, (cX0_isOpen, (1, ((Option.some FieldType.boolean), [])))))
noncomputable def t_X0_open : En := ((k_X0_open, []), (yX0_open, (cX0_open, (2, (none, [])))))
noncomputable def t_X0_take : En := ((k_X0_take, []), (yX0_take, (cX0_take, (3, (none, [])))))
noncomputable def t_X1_init : En := ((k_X1_init, []), (yX1_init, (cX1_init, (1, (none, [])))))
noncomputable def t_X1_enter : En := ((k_X1_enter, [.inr (.inr (.inr (.inr (.inr 2))))]), (yX1_enter, (cX1_enter, (2, ((Option.some FieldType.int), [])))))
noncomputable def t_X1_enterResult : En := ((k_X1_enterResult, []), (yX1_enterResult, (cX1_enterResult, (3, (none, [])))))
noncomputable def t_X1_enterResultOf : En := ((k_X1_enterResultOf, []), (yX1_enterResultOf, (cX1_enterResultOf, (3, (none, [])))))
noncomputable def t_X1_isBetter : En := ((k_X1_isBetter, []), (yX1_isBetter, (cX1_isBetter, (3, ((Option.some FieldType.boolean), [])))))
noncomputable def t_X1_placeOf : En := ((k_X1_placeOf, [.inr (.inr (.inr (.inr (.inr 2)))), .inr (.inr (.inr (.inr (.inr 2))))]), (yX1_placeOf, (cX1_placeOf, (4, ((Option.some FieldType.int), [])))))
noncomputable def t_X1_squadAt : En := ((k_X1_squadAt, [.inr (.inr (.inr (.inr (.inr 2))))]), (yX1_squadAt, (cX1_squadAt, (3, ((Option.some FieldType.int), [])))))
noncomputable def t_X1_startAnew : En := ((k_X1_startAnew, []), (yX1_startAnew, (cX1_startAnew, (1, (none, [])))))
noncomputable def t_X2_init : En := ((k_X2_init, []), (yX2_init, (cX2_init, (1, (none, [])))))
noncomputable def t_X2_change : En := ((k_X2_change, []), (yX2_change, (cX2_change, (5, (none, [])))))
noncomputable def t_X3_init : En := ((k_X3_init, []), (yX3_init, (cX3_init, (1, (none, [])))))
noncomputable def t_X3_append : En := ((k_X3_append, []), (yX3_append, (cX3_append, (2, (none, [])))))
noncomputable def t_X3_at : En := ((k_X3_at, []), (yX3_at, (cX3_at, (2, ((Option.some FieldType.int), [])))))
noncomputable def t_X3_clear : En := ((k_X3_clear, []), (yX3_clear, (cX3_clear, (1, (none, [])))))
noncomputable def t_X3_has : En := ((k_X3_has, [.inr (.inr (.inr (.inr (.inr 2))))]), (yX3_has, (cX3_has, (3, ((Option.some FieldType.boolean), [])))))
noncomputable def t_X3_insertByNumber : En := ((k_X3_insertByNumber, [.inr (.inr (.inr (.inr (.inr 2)))), .inr (.inr (.inr (.inr (.inr 2))))]), (yX3_insertByNumber, (cX3_insertByNumber, (4, (none, [])))))
noncomputable def t_X3_remove : En := ((k_X3_remove, [.inr (.inr (.inr (.inr (.inr 2)))), .inr (.inr (.inr (.inr (.inr 2))))]), (yX3_remove, (cX3_remove, (4, ((Option.some FieldType.boolean), [])))))
noncomputable def t_X4_init : En := ((k_X4_init, []), (yX4_init, (cX4_init, (1, (none, [])))))
noncomputable def t_X4_defenders : En := ((k_X4_defenders, []), (yX4_defenders, (cX4_defenders, (1, ((Option.some (FieldType.object "Raidline$Side")), [])))))
noncomputable def t_X4_isDecided : En := ((k_X4_isDecided, [.inr (.inr (.inr (.inr (.inr 2))))]), (yX4_isDecided, (cX4_isDecided, (2, ((Option.some FieldType.boolean), [])))))
noncomputable def t_X4_lastDefenders : En := ((k_X4_lastDefenders, []), (yX4_lastDefenders, (cX4_lastDefenders, (1, ((Option.some (FieldType.object "Raidline$Side")), [])))))
noncomputable def t_X4_lastRaiders : En := ((k_X4_lastRaiders, []), (yX4_lastRaiders, (cX4_lastRaiders, (1, ((Option.some (FieldType.object "Raidline$Side")), [])))))
noncomputable def t_X4_raiders : En := ((k_X4_raiders, []), (yX4_raiders, (cX4_raiders, (1, ((Option.some (FieldType.object "Raidline$Side")), [])))))
noncomputable def t_X4_sideAt : En := ((k_X4_sideAt, []), (yX4_sideAt, (cX4_sideAt, (2, ((Option.some (FieldType.object "Raidline$Side")), [])))))
noncomputable def t_X4_sideInTurn : En := ((k_X4_sideInTurn, []), (yX4_sideInTurn, (cX4_sideInTurn, (1, ((Option.some FieldType.int), [])))))
noncomputable def t_X4_sideOfRaid : En := ((k_X4_sideOfRaid, [.inr (.inr (.inr (.inr (.inr 2))))]), (yX4_sideOfRaid, (cX4_sideOfRaid, (3, ((Option.some FieldType.int), [])))))
noncomputable def t_X4_sideOfSquad : En := ((k_X4_sideOfSquad, []), (yX4_sideOfSquad, (cX4_sideOfSquad, (2, ((Option.some (FieldType.object "Raidline$Side")), [])))))
noncomputable def t_X4_sideWith : En := ((k_X4_sideWith, []), (yX4_sideWith, (cX4_sideWith, (2, ((Option.some (FieldType.object "Raidline$Side")), [])))))
noncomputable def t_X4_start : En := ((k_X4_start, []), (yX4_start, (cX4_start, (3, (none, [])))))
noncomputable def t_X5_init : En := ((k_X5_init, []), (yX5_init, (cX5_init, (1, (none, [])))))
noncomputable def t_X5_brought : En := ((k_X5_brought, []), (yX5_brought, (cX5_brought, (1, ((Option.some FieldType.int), [])))))
noncomputable def t_X5_forget : En := ((k_X5_forget, []), (yX5_forget, (cX5_forget, (1, (none, [])))))
noncomputable def t_X5_hasBreathFor : En := ((k_X5_hasBreathFor, []), (yX5_hasBreathFor, (cX5_hasBreathFor, (2, ((Option.some FieldType.boolean), [])))))
noncomputable def t_X5_isCalled : En := ((k_X5_isCalled, []), (yX5_isCalled, (cX5_isCalled, (2, ((Option.some FieldType.boolean), [])))))
noncomputable def t_X5_isReviewable : En := ((k_X5_isReviewable, []), (yX5_isReviewable, (cX5_isReviewable, (2, ((Option.some FieldType.boolean), [])))))
noncomputable def t_X5_isTouched : En := ((k_X5_isTouched, []), (yX5_isTouched, (cX5_isTouched, (2, ((Option.some FieldType.boolean), [])))))
noncomputable def t_X5_isWrong : En := ((k_X5_isWrong, [.inr (.inr (.inr (.inr (.inr 2))))]), (yX5_isWrong, (cX5_isWrong, (3, ((Option.some FieldType.boolean), [])))))
noncomputable def t_X5_markReviewed : En := ((k_X5_markReviewed, []), (yX5_markReviewed, (cX5_markReviewed, (2, (none, [])))))
noncomputable def t_X5_markTold : En := ((k_X5_markTold, []), (yX5_markTold, (cX5_markTold, (4, (none, [])))))
noncomputable def t_X5_spend : En := ((k_X5_spend, []), (yX5_spend, (cX5_spend, (2, ((Option.some FieldType.int), [])))))
noncomputable def t_X5_start : En := ((k_X5_start, []), (yX5_start, (cX5_start, (4, (none, [])))))
noncomputable def t_X6_init : En := ((k_X6_init, []), (yX6_init, (cX6_init, (1, (none, [])))))
noncomputable def t_X6_enter : En := ((k_X6_enter, [.inr (.inr (.inr (.inr (.inr 2))))]), (yX6_enter, (cX6_enter, (6, ((Option.some FieldType.int), [])))))
noncomputable def t_X6_paidBy : En := ((k_X6_paidBy, [.inr (.inr (.inr (.inr (.inr 2)))), .inr (.inr (.inr (.inr (.inr 2))))]), (yX6_paidBy, (cX6_paidBy, (4, ((Option.some FieldType.int), [])))))
noncomputable def t_X6_release : En := ((k_X6_release, [.inr (.inr (.inr (.inr (.inr 2)))), .inr (.inr (.inr (.inr (.inr 2)))), .inr (.inr (.inr (.inr (.inr 2))))]), (yX6_release, (cX6_release, (4, ((Option.some FieldType.int), [])))))
noncomputable def t_X6_sizeOf : En := ((k_X6_sizeOf, [.inr (.inr (.inr (.inr (.inr 2)))), .inr (.inr (.inr (.inr (.inr 2))))]), (yX6_sizeOf, (cX6_sizeOf, (4, ((Option.some FieldType.int), [])))))
noncomputable def t_X7_init : En := ((k_X7_init, []), (yX7_init, (cX7_init, (2, (none, [])))))
noncomputable def t_X7_add : En := ((k_X7_add, []), (yX7_add, (cX7_add, (3, (none, [])))))
noncomputable def t_X7_fill : En := ((k_X7_fill, [.inr (.inr (.inr (.inr (.inr 2))))]), (yX7_fill, (cX7_fill, (3, (none, [])))))
noncomputable def t_X7_get : En := ((k_X7_get, []), (yX7_get, (cX7_get, (2, ((Option.some FieldType.int), [])))))
noncomputable def t_X7_set : En := ((k_X7_set, []), (yX7_set, (cX7_set, (3, (none, [])))))
noncomputable def t_X8_init : En := ((k_X8_init, []), (yX8_init, (cX8_init, (1, (none, [])))))
noncomputable def t_X8_change : En := ((k_X8_change, []), (yX8_change, (cX8_change, (3, (none, [])))))
noncomputable def t_X8_comeOn : En := ((k_X8_comeOn, []), (yX8_comeOn, (cX8_comeOn, (2, (none, [])))))
noncomputable def t_X8_goOut : En := ((k_X8_goOut, [.inr (.inr (.inr (.inr (.inr 2))))]), (yX8_goOut, (cX8_goOut, (3, ((Option.some FieldType.boolean), [])))))
noncomputable def t_X8_isInPlay : En := ((k_X8_isInPlay, []), (yX8_isInPlay, (cX8_isInPlay, (2, ((Option.some FieldType.boolean), [])))))
noncomputable def t_X8_lineUp : En := ((k_X8_lineUp, [.inr (.inr (.inr (.inr (.inr 2))))]), (yX8_lineUp, (cX8_lineUp, (5, (none, [])))))
noncomputable def t_X8_placesOf : En := ((k_X8_placesOf, [.inr (.inr (.inr (.inr (.inr 2))))]), (yX8_placesOf, (cX8_placesOf, (3, ((Option.some FieldType.int), [])))))
noncomputable def t_X8_revive : En := ((k_X8_revive, [.inr (.inr (.inr (.inr (.inr 2))))]), (yX8_revive, (cX8_revive, (3, (none, [])))))
noncomputable def t_X8_sendOff : En := ((k_X8_sendOff, []), (yX8_sendOff, (cX8_sendOff, (2, (none, [])))))
noncomputable def t_X9_init : En := ((k_X9_init, []), (yX9_init, (cX9_init, (1, (none, [])))))
noncomputable def t_X9_record : En := ((k_X9_record, []), (yX9_record, (cX9_record, (4, (none, [])))))
noncomputable def t_X10_init : En := ((k_X10_init, []), (yX10_init, (cX10_init, (1, (none, [])))))
noncomputable def t_L_ask : En := ((k_L_ask, [.inr (.inr (.inr (.inr (.inr 2))))]), (yL_ask, (cL_ask, (4, ((Option.some FieldType.int), [(0, 241, 552, 110), (242, 246, 552, 110), (247, 254, 552, 110), (255, 265, 552, 110), (266, 273, 552, 110), (274, 278, 552, 110), (279, 286, 552, 110), (287, 294, 552, 110), (295, 299, 552, 110), (300, 325, 552, 110), (326, 348, 552, 110), (349, 353, 552, 110), (354, 361, 552, 110), (362, 369, 552, 110), (370, 380, 552, 110), (381, 391, 552, 110), (392, 402, 552, 110), (403, 418, 552, 110), (419, 450, 552, 110), (451, 455, 552, 110), (456, 463, 552, 110), (464, 471, 552, 110), (472, 476, 552, 110), (477, 488, 552, 110), (489, 499, 552, 110), (500, 518, 552, 110), (519, 530, 552, 110), (531, 538, 552, 110), (539, 546, 552, 110), (547, 551, 552, 110), (0, 241, 556, 115), (242, 246, 556, 115), (247, 254, 556, 115), (255, 265, 556, 115), (266, 273, 556, 115), (274, 278, 556, 115), (279, 286, 556, 115), (287, 294, 556, 115), (295, 299, 556, 115), (300, 325, 556, 115), (326, 348, 556, 115), (349, 353, 556, 115), (354, 361, 556, 115), (362, 369, 556, 115), (370, 380, 556, 115), (381, 391, 556, 115), (392, 402, 556, 115), (403, 418, 556, 115), (419, 450, 556, 115), (451, 455, 556, 115), (456, 463, 556, 115), (464, 471, 556, 115), (472, 476, 556, 115), (477, 488, 556, 115), (489, 499, 556, 115), (500, 518, 556, 115), (519, 530, 556, 115), (531, 538, 556, 115), (539, 546, 556, 115), (547, 551, 556, 115), (0, 241, 560, 118), (242, 246, 560, 118), (247, 254, 560, 118), (255, 265, 560, 118), (266, 273, 560, 118), (274, 278, 560, 118), (279, 286, 560, 118), (287, 294, 560, 118), (295, 299, 560, 118), (300, 325, 560, 118), (326, 348, 560, 118), (349, 353, 560, 118), (354, 361, 560, 118), (362, 369, 560, 118), (370, 380, 560, 118), (381, 391, 560, 118), (392, 402, 560, 118), (403, 418, 560, 118), (419, 450, 560, 118), (451, 455, 560, 118), (456, 463, 560, 118), (464, 471, 560, 118), (472, 476, 560, 118), (477, 488, 560, 118), (489, 499, 560, 118), (500, 518, 560, 118), (519, 530, 560, 118), (531, 538, 560, 118), (539, 546, 560, 118), (547, 551, 560, 118), (0, 241, 564, 121), (242, 246, 564, 121), (247, 254, 564, 121), (255, 265, 564, 121), (266, 273, 564, 121), (274, 278, 564, 121), (279, 286, 564, 121), (287, 294, 564, 121), (295, 299, 564, 121), (300, 325, 564, 121), (326, 348, 564, 121), (349, 353, 564, 121), (354, 361, 564, 121), (362, 369, 564, 121), (370, 380, 564, 121), (381, 391, 564, 121), (392, 402, 564, 121), (403, 418, 564, 121), (419, 450, 564, 121), (451, 455, 564, 121), (456, 463, 564, 121), (464, 471, 564, 121), (472, 476, 564, 121), (477, 488, 564, 121), (489, 499, 564, 121), (500, 518, 564, 121), (519, 530, 564, 121), (531, 538, 564, 121), (539, 546, 564, 121), (547, 551, 564, 121), (0, 241, 568, 124), (242, 246, 568, 124), (247, 254, 568, 124), (255, 265, 568, 124), (266, 273, 568, 124), (274, 278, 568, 124), (279, 286, 568, 124), (287, 294, 568, 124), (295, 299, 568, 124), (300, 325, 568, 124), (326, 348, 568, 124), (349, 353, 568, 124), (354, 361, 568, 124), (362, 369, 568, 124), (370, 380, 568, 124), (381, 391, 568, 124), (392, 402, 568, 124), (403, 418, 568, 124), (419, 450, 568, 124), (451, 455, 568, 124), (456, 463, 568, 124), (464, 471, 568, 124), (472, 476, 568, 124), (477, 488, 568, 124), (489, 499, 568, 124), (500, 518, 568, 124), (519, 530, 568, 124), (531, 538, 568, 124), (539, 546, 568, 124), (547, 551, 568, 124)])))))
noncomputable def t_L_begin : En := ((k_L_begin, [.inr (.inr (.inr (.inr (.inr 2))))]), (yL_begin, (cL_begin, (4, ((Option.some FieldType.boolean), [])))))
noncomputable def t_L_hasNone : En := ((k_L_hasNone, [.inr (.inr (.inr (.inr (.inr 2)))), .inr (.inr (.inr (.inr (.inr 2))))]), (yL_hasNone, (cL_hasNone, (4, ((Option.some FieldType.boolean), [(0, 18, 19, 135)])))))
noncomputable def t_X10_caughtLoss : En := ((k_X10_caughtLoss, [.inr (.inr (.inr (.inr (.inr 2))))]), (yX10_caughtLoss, (cX10_caughtLoss, (3, ((Option.some FieldType.int), [])))))
noncomputable def t_X10_chance : En := ((k_X10_chance, []), (yX10_chance, (cX10_chance, (1, ((Option.some FieldType.double), [])))))
noncomputable def t_X10_defendersBehindOut : En := ((k_X10_defendersBehindOut, []), (yX10_defendersBehindOut, (cX10_defendersBehindOut, (1, ((Option.some FieldType.int), [])))))
noncomputable def t_X10_defendersBehindTouch : En := ((k_X10_defendersBehindTouch, []), (yX10_defendersBehindTouch, (cX10_defendersBehindTouch, (1, ((Option.some FieldType.int), [])))))
noncomputable def t_X10_doOrDieLoss : En := ((k_X10_doOrDieLoss, []), (yX10_doOrDieLoss, (cX10_doOrDieLoss, (1, ((Option.some FieldType.int), [])))))
noncomputable def t_X10_isSolvedBackward : En := ((k_X10_isSolvedBackward, []), (yX10_isSolvedBackward, (cX10_isSolvedBackward, (1, ((Option.some FieldType.boolean), [])))))
noncomputable def t_X10_keep : En := ((k_X10_keep, []), (yX10_keep, (cX10_keep, (4, (none, [])))))
noncomputable def t_X10_lookAhead : En := ((k_X10_lookAhead, [.inr (.inr (.inr (.inr (.inr 2)))), .inr (.inr (.inr (.inr (.inr 2)))), .inr (.inr (.inr (.inr (.inr 2)))), .inr (.inr (.inr (.inr (.inr 2)))), .inr (.inr (.inr (.inr (.inr 2)))), .inr (.inr (.inr (.inr (.inr 2)))), .inr (.inr (.inr (.inr (.inr 2))))]), (yX10_lookAhead, (cX10_lookAhead, (13, ((Option.some FieldType.double), [])))))
noncomputable def t_X10_pair : En := ((k_X10_pair, []), (yX10_pair, (cX10_pair, (2, ((Option.some FieldType.int), [])))))
noncomputable def t_X10_raidersBehindOut : En := ((k_X10_raidersBehindOut, []), (yX10_raidersBehindOut, (cX10_raidersBehindOut, (1, ((Option.some FieldType.int), [])))))
noncomputable def t_X10_raidersBehindTouch : En := ((k_X10_raidersBehindTouch, []), (yX10_raidersBehindTouch, (cX10_raidersBehindTouch, (1, ((Option.some FieldType.int), [])))))
noncomputable def t_X10_read : En := ((k_X10_read, []), (yX10_read, (cX10_read, (2, ((Option.some FieldType.double), [])))))
noncomputable def t_X10_solveBackward : En := ((k_X10_solveBackward, [.inr (.inr (.inr (.inr (.inr 2)))), .inr (.inr (.inr (.inr (.inr 2))))]), (yX10_solveBackward, (cX10_solveBackward, (4, ((Option.some FieldType.double), [])))))
noncomputable def t_X10_solveOneMore : En := ((k_X10_solveOneMore, [.inr (.inr (.inr (.inr (.inr 2)))), .inr (.inr (.inr (.inr (.inr 2))))]), (yX10_solveOneMore, (cX10_solveOneMore, (3, (none, [])))))
noncomputable def t_X10_solvePair : En := ((k_X10_solvePair, [.inr (.inr (.inr (.inr (.inr 2)))), .inr (.inr (.inr (.inr (.inr 2)))), .inr (.inr (.inr (.inr (.inr 2)))), .inr (.inr (.inr (.inr (.inr 2)))), .inr (.inr (.inr (.inr (.inr 2)))), .inr (.inr (.inr (.inr (.inr 2)))), .inr (.inr (.inr (.inr (.inr 2)))), .inr (.inr (.inr (.inr (.inr 2)))), .inr (.inr (.inr (.inr (.inr 2)))), .inr (.inr (.inr (.inr (.inr 2))))]), (yX10_solvePair, (cX10_solvePair, (13, (none, [])))))
noncomputable def t_X10_touchGain : En := ((k_X10_touchGain, []), (yX10_touchGain, (cX10_touchGain, (1, ((Option.some FieldType.int), [])))))
noncomputable def tab : List En := [t_X11_init, t_X11_allOut, t_X11_arePursesRight, t_X11_baseOf, t_X11_begin, t_X11_benchAt, t_X11_bid, t_X11_bonus, t_X11_bringHome, t_X11_canTake, t_X11_card, t_X11_champion, t_X11_checksum, t_X11_closeRaid, t_X11_comeBack, t_X11_edition, t_X11_emptyShare, t_X11_endSittings, t_X11_goesOn, t_X11_isAbility, t_X11_isEachInOnePlace, t_X11_isEachInOneSquad, t_X11_isTrue, t_X11_knockDown, t_X11_league, t_X11_lowestBid, t_X11_matAt, t_X11_match, t_X11_meanPoints, t_X11_needPause, t_X11_needPlayer, t_X11_needRaid, t_X11_needSide, t_X11_needSquad, t_X11_onMat, t_X11_outAt, t_X11_placed, t_X11_player, t_X11_playingSide, t_X11_points, t_X11_present, t_X11_purse, t_X11_putRight, t_X11_putUp, t_X11_raid, t_X11_raids, t_X11_review, t_X11_season, t_X11_sell, t_X11_squad, t_X11_squadOf, t_X11_stepOut, t_X11_struggle, t_X11_substitute, t_X11_takeTouched, t_X11_told, t_X11_touch, t_X11_turn, t_X11_wouldEmptyMat, t_X0_init, t_X0_close, t_X0_isOpen, t_X0_open, t_X0_take, t_X1_init, t_X1_enter, t_X1_enterResult, t_X1_enterResultOf, t_X1_isBetter, t_X1_placeOf, t_X1_squadAt, t_X1_startAnew, t_X2_init, t_X2_change, t_X3_init, t_X3_append, t_X3_at, t_X3_clear, t_X3_has, t_X3_insertByNumber, t_X3_remove, t_X4_init, t_X4_defenders, t_X4_isDecided, t_X4_lastDefenders, t_X4_lastRaiders, t_X4_raiders, t_X4_sideAt, t_X4_sideInTurn, t_X4_sideOfRaid, t_X4_sideOfSquad, t_X4_sideWith, t_X4_start, t_X5_init, t_X5_brought, t_X5_forget, t_X5_hasBreathFor, t_X5_isCalled, t_X5_isReviewable, t_X5_isTouched, t_X5_isWrong, t_X5_markReviewed, t_X5_markTold, t_X5_spend, t_X5_start, t_X6_init, t_X6_enter, t_X6_paidBy, t_X6_release, t_X6_sizeOf, t_X7_init, t_X7_add, t_X7_fill, t_X7_get, t_X7_set, t_X8_init, t_X8_change, t_X8_comeOn, t_X8_goOut, t_X8_isInPlay, t_X8_lineUp, t_X8_placesOf, t_X8_revive, t_X8_sendOff, t_X9_init, t_X9_record, t_X10_init, t_L_ask, t_L_begin, t_L_hasNone]
noncomputable def tabV : List En := [t_X10_caughtLoss, t_X10_chance, t_X10_defendersBehindOut, t_X10_defendersBehindTouch, t_X10_doOrDieLoss, t_X10_isSolvedBackward, t_X10_keep, t_X10_lookAhead, t_X10_pair, t_X10_raidersBehindOut, t_X10_raidersBehindTouch, t_X10_read, t_X10_solveBackward, t_X10_solveOneMore, t_X10_solvePair, t_X10_touchGain]
theorem en_X11_init : tab[0]? = some t_X11_init := rfl
theorem en_X11_allOut : tab[1]? = some t_X11_allOut := rfl
theorem en_X11_arePursesRight : tab[2]? = some t_X11_arePursesRight := rfl
theorem en_X11_baseOf : tab[3]? = some t_X11_baseOf := rfl
theorem en_X11_begin : tab[4]? = some t_X11_begin := rfl
theorem en_X11_benchAt : tab[5]? = some t_X11_benchAt := rfl
theorem en_X11_bid : tab[6]? = some t_X11_bid := rfl
theorem en_X11_bonus : tab[7]? = some t_X11_bonus := rfl
theorem en_X11_bringHome : tab[8]? = some t_X11_bringHome := rfl
theorem en_X11_canTake : tab[9]? = some t_X11_canTake := rfl
theorem en_X11_card : tab[10]? = some t_X11_card := rfl
theorem en_X11_champion : tab[11]? = some t_X11_champion := rfl
theorem en_X11_checksum : tab[12]? = some t_X11_checksum := rfl
theorem en_X11_closeRaid : tab[13]? = some t_X11_closeRaid := rfl
theorem en_X11_comeBack : tab[14]? = some t_X11_comeBack := rfl
theorem en_X11_edition : tab[15]? = some t_X11_edition := rfl
theorem en_X11_emptyShare : tab[16]? = some t_X11_emptyShare := rfl
theorem en_X11_endSittings : tab[17]? = some t_X11_endSittings := rfl
theorem en_X11_goesOn : tab[18]? = some t_X11_goesOn := rfl
theorem en_X11_isAbility : tab[19]? = some t_X11_isAbility := rfl
theorem en_X11_isEachInOnePlace : tab[20]? = some t_X11_isEachInOnePlace := rfl
theorem en_X11_isEachInOneSquad : tab[21]? = some t_X11_isEachInOneSquad := rfl
theorem en_X11_isTrue : tab[22]? = some t_X11_isTrue := rfl
theorem en_X11_knockDown : tab[23]? = some t_X11_knockDown := rfl
theorem en_X11_league : tab[24]? = some t_X11_league := rfl
theorem en_X11_lowestBid : tab[25]? = some t_X11_lowestBid := rfl
theorem en_X11_matAt : tab[26]? = some t_X11_matAt := rfl
theorem en_X11_match : tab[27]? = some t_X11_match := rfl
theorem en_X11_meanPoints : tab[28]? = some t_X11_meanPoints := rfl
theorem en_X11_needPause : tab[29]? = some t_X11_needPause := rfl
theorem en_X11_needPlayer : tab[30]? = some t_X11_needPlayer := rfl
theorem en_X11_needRaid : tab[31]? = some t_X11_needRaid := rfl
theorem en_X11_needSide : tab[32]? = some t_X11_needSide := rfl
theorem en_X11_needSquad : tab[33]? = some t_X11_needSquad := rfl
theorem en_X11_onMat : tab[34]? = some t_X11_onMat := rfl
theorem en_X11_outAt : tab[35]? = some t_X11_outAt := rfl
theorem en_X11_placed : tab[36]? = some t_X11_placed := rfl
theorem en_X11_player : tab[37]? = some t_X11_player := rfl
theorem en_X11_playingSide : tab[38]? = some t_X11_playingSide := rfl
theorem en_X11_points : tab[39]? = some t_X11_points := rfl
theorem en_X11_present : tab[40]? = some t_X11_present := rfl
theorem en_X11_purse : tab[41]? = some t_X11_purse := rfl
theorem en_X11_putRight : tab[42]? = some t_X11_putRight := rfl
theorem en_X11_putUp : tab[43]? = some t_X11_putUp := rfl
theorem en_X11_raid : tab[44]? = some t_X11_raid := rfl
theorem en_X11_raids : tab[45]? = some t_X11_raids := rfl
theorem en_X11_review : tab[46]? = some t_X11_review := rfl
theorem en_X11_season : tab[47]? = some t_X11_season := rfl
theorem en_X11_sell : tab[48]? = some t_X11_sell := rfl
theorem en_X11_squad : tab[49]? = some t_X11_squad := rfl
theorem en_X11_squadOf : tab[50]? = some t_X11_squadOf := rfl
theorem en_X11_stepOut : tab[51]? = some t_X11_stepOut := rfl
theorem en_X11_struggle : tab[52]? = some t_X11_struggle := rfl
theorem en_X11_substitute : tab[53]? = some t_X11_substitute := rfl
theorem en_X11_takeTouched : tab[54]? = some t_X11_takeTouched := rfl
theorem en_X11_told : tab[55]? = some t_X11_told := rfl
theorem en_X11_touch : tab[56]? = some t_X11_touch := rfl
theorem en_X11_turn : tab[57]? = some t_X11_turn := rfl
theorem en_X11_wouldEmptyMat : tab[58]? = some t_X11_wouldEmptyMat := rfl
theorem en_X0_init : tab[59]? = some t_X0_init := rfl
theorem en_X0_close : tab[60]? = some t_X0_close := rfl
theorem en_X0_isOpen : tab[61]? = some t_X0_isOpen := rfl
theorem en_X0_open : tab[62]? = some t_X0_open := rfl
theorem en_X0_take : tab[63]? = some t_X0_take := rfl
theorem en_X1_init : tab[64]? = some t_X1_init := rfl
theorem en_X1_enter : tab[65]? = some t_X1_enter := rfl
theorem en_X1_enterResult : tab[66]? = some t_X1_enterResult := rfl
theorem en_X1_enterResultOf : tab[67]? = some t_X1_enterResultOf := rfl
theorem en_X1_isBetter : tab[68]? = some t_X1_isBetter := rfl
theorem en_X1_placeOf : tab[69]? = some t_X1_placeOf := rfl
theorem en_X1_squadAt : tab[70]? = some t_X1_squadAt := rfl
theorem en_X1_startAnew : tab[71]? = some t_X1_startAnew := rfl
theorem en_X2_init : tab[72]? = some t_X2_init := rfl
theorem en_X2_change : tab[73]? = some t_X2_change := rfl
theorem en_X3_init : tab[74]? = some t_X3_init := rfl
theorem en_X3_append : tab[75]? = some t_X3_append := rfl
theorem en_X3_at : tab[76]? = some t_X3_at := rfl
theorem en_X3_clear : tab[77]? = some t_X3_clear := rfl
theorem en_X3_has : tab[78]? = some t_X3_has := rfl
theorem en_X3_insertByNumber : tab[79]? = some t_X3_insertByNumber := rfl
theorem en_X3_remove : tab[80]? = some t_X3_remove := rfl
theorem en_X4_init : tab[81]? = some t_X4_init := rfl
theorem en_X4_defenders : tab[82]? = some t_X4_defenders := rfl
theorem en_X4_isDecided : tab[83]? = some t_X4_isDecided := rfl
theorem en_X4_lastDefenders : tab[84]? = some t_X4_lastDefenders := rfl
theorem en_X4_lastRaiders : tab[85]? = some t_X4_lastRaiders := rfl
theorem en_X4_raiders : tab[86]? = some t_X4_raiders := rfl
theorem en_X4_sideAt : tab[87]? = some t_X4_sideAt := rfl
theorem en_X4_sideInTurn : tab[88]? = some t_X4_sideInTurn := rfl
theorem en_X4_sideOfRaid : tab[89]? = some t_X4_sideOfRaid := rfl
theorem en_X4_sideOfSquad : tab[90]? = some t_X4_sideOfSquad := rfl
theorem en_X4_sideWith : tab[91]? = some t_X4_sideWith := rfl
theorem en_X4_start : tab[92]? = some t_X4_start := rfl
theorem en_X5_init : tab[93]? = some t_X5_init := rfl
theorem en_X5_brought : tab[94]? = some t_X5_brought := rfl
theorem en_X5_forget : tab[95]? = some t_X5_forget := rfl
theorem en_X5_hasBreathFor : tab[96]? = some t_X5_hasBreathFor := rfl
theorem en_X5_isCalled : tab[97]? = some t_X5_isCalled := rfl
theorem en_X5_isReviewable : tab[98]? = some t_X5_isReviewable := rfl
theorem en_X5_isTouched : tab[99]? = some t_X5_isTouched := rfl
theorem en_X5_isWrong : tab[100]? = some t_X5_isWrong := rfl
theorem en_X5_markReviewed : tab[101]? = some t_X5_markReviewed := rfl
theorem en_X5_markTold : tab[102]? = some t_X5_markTold := rfl
theorem en_X5_spend : tab[103]? = some t_X5_spend := rfl
theorem en_X5_start : tab[104]? = some t_X5_start := rfl
theorem en_X6_init : tab[105]? = some t_X6_init := rfl
theorem en_X6_enter : tab[106]? = some t_X6_enter := rfl
theorem en_X6_paidBy : tab[107]? = some t_X6_paidBy := rfl
theorem en_X6_release : tab[108]? = some t_X6_release := rfl
theorem en_X6_sizeOf : tab[109]? = some t_X6_sizeOf := rfl
theorem en_X7_init : tab[110]? = some t_X7_init := rfl
theorem en_X7_add : tab[111]? = some t_X7_add := rfl
theorem en_X7_fill : tab[112]? = some t_X7_fill := rfl
theorem en_X7_get : tab[113]? = some t_X7_get := rfl
theorem en_X7_set : tab[114]? = some t_X7_set := rfl
theorem en_X8_init : tab[115]? = some t_X8_init := rfl
theorem en_X8_change : tab[116]? = some t_X8_change := rfl
theorem en_X8_comeOn : tab[117]? = some t_X8_comeOn := rfl
theorem en_X8_goOut : tab[118]? = some t_X8_goOut := rfl
theorem en_X8_isInPlay : tab[119]? = some t_X8_isInPlay := rfl
theorem en_X8_lineUp : tab[120]? = some t_X8_lineUp := rfl
theorem en_X8_placesOf : tab[121]? = some t_X8_placesOf := rfl
theorem en_X8_revive : tab[122]? = some t_X8_revive := rfl
theorem en_X8_sendOff : tab[123]? = some t_X8_sendOff := rfl
theorem en_X9_init : tab[124]? = some t_X9_init := rfl
theorem en_X9_record : tab[125]? = some t_X9_record := rfl
theorem en_X10_init : tab[126]? = some t_X10_init := rfl
theorem en_L_ask : tab[127]? = some t_L_ask := rfl
theorem en_L_begin : tab[128]? = some t_L_begin := rfl
theorem en_L_hasNone : tab[129]? = some t_L_hasNone := rfl
theorem en_X10_caughtLoss : tabV[0]? = some t_X10_caughtLoss := rfl
theorem en_X10_chance : tabV[1]? = some t_X10_chance := rfl
theorem en_X10_defendersBehindOut : tabV[2]? = some t_X10_defendersBehindOut := rfl
theorem en_X10_defendersBehindTouch : tabV[3]? = some t_X10_defendersBehindTouch := rfl
theorem en_X10_doOrDieLoss : tabV[4]? = some t_X10_doOrDieLoss := rfl
theorem en_X10_isSolvedBackward : tabV[5]? = some t_X10_isSolvedBackward := rfl
theorem en_X10_keep : tabV[6]? = some t_X10_keep := rfl
theorem en_X10_lookAhead : tabV[7]? = some t_X10_lookAhead := rfl
theorem en_X10_pair : tabV[8]? = some t_X10_pair := rfl
theorem en_X10_raidersBehindOut : tabV[9]? = some t_X10_raidersBehindOut := rfl
theorem en_X10_raidersBehindTouch : tabV[10]? = some t_X10_raidersBehindTouch := rfl
theorem en_X10_read : tabV[11]? = some t_X10_read := rfl
theorem en_X10_solveBackward : tabV[12]? = some t_X10_solveBackward := rfl
theorem en_X10_solveOneMore : tabV[13]? = some t_X10_solveOneMore := rfl
theorem en_X10_solvePair : tabV[14]? = some t_X10_solvePair := rfl
theorem en_X10_touchGain : tabV[15]? = some t_X10_touchGain := rfl
/-- what a method's blocks may use -/
def Ctx (tab : List En) (B9 d : Nat) (G : Gm) (cal : Cal) (en : En) : Prop := B9 ≤ d ∧ Wk G en.2.2.1 en.2.2.2.1 en.2.1.cls ∧ (gc G).exceptionTable.toList = tableOf en.2.2.2.2.2 ∧ (gk G).name = en.2.1.name ∧ (gk G).sig.returnType = en.2.2.2.2.1 ∧ CalOK (gl G) tab d G.2.2 cal ∧ 10 + d + 1 ≤ (gR G).frames ∧ 260 + 60 * d ≤ (gR G).locals
theorem Ctx.bd {tab : List En} {B9 d : Nat} {G : Gm} {cal : Cal} {en : En} (c : Ctx tab B9 d G cal en) : B9 ≤ d := c.1
theorem Ctx.w {tab : List En} {B9 d : Nat} {G : Gm} {cal : Cal} {en : En} (c : Ctx tab B9 d G cal en) : Wk G en.2.2.1 en.2.2.2.1 en.2.1.cls := c.2.1
theorem Ctx.tb {tab : List En} {B9 d : Nat} {G : Gm} {cal : Cal} {en : En} (c : Ctx tab B9 d G cal en) : (gc G).exceptionTable.toList = tableOf en.2.2.2.2.2 := c.2.2.1
theorem Ctx.nm {tab : List En} {B9 d : Nat} {G : Gm} {cal : Cal} {en : En} (c : Ctx tab B9 d G cal en) : (gk G).name = en.2.1.name := c.2.2.2.1
theorem Ctx.re {tab : List En} {B9 d : Nat} {G : Gm} {cal : Cal} {en : En} (c : Ctx tab B9 d G cal en) : (gk G).sig.returnType = en.2.2.2.2.1 := c.2.2.2.2.1
theorem Ctx.ca {tab : List En} {B9 d : Nat} {G : Gm} {cal : Cal} {en : En} (c : Ctx tab B9 d G cal en) : CalOK (gl G) tab d G.2.2 cal := c.2.2.2.2.2.1
theorem Ctx.fr {tab : List En} {B9 d : Nat} {G : Gm} {cal : Cal} {en : En} (c : Ctx tab B9 d G cal en) : 10 + d + 1 ≤ (gR G).frames := c.2.2.2.2.2.2.1
theorem Ctx.lo {tab : List En} {B9 d : Nat} {G : Gm} {cal : Cal} {en : En} (c : Ctx tab B9 d G cal en) : 260 + 60 * d ≤ (gR G).locals := c.2.2.2.2.2.2.2
theorem Ctx.hT {tab : List En} {B9 d : Nat} {G : Gm} {cal : Cal} {k : List Op × List AV} {n : MethodName} {b : ByteArray} {m : Nat} {r : Option FieldType} (c : Ctx tab B9 d G cal (k, (n, (b, (m, (r, [])))))) : ∀ x ∈ (gc G).exceptionTable.toList, False := no_tab c.tb
theorem MethOK_mk {tab : List En} {B9 : Nat} {en : En} (h1 : plainName en.2.1.cls = true) (h2 : ∀ v ∈ en.1.2, v = (.inr (.inr (.inr (.inr (.inr 2)))) : AV)) (P : Nat → Nat) (hP : P 0 = 0) (h : ∀ (d : Nat) (G : Gm) (cal : Cal), Ctx tab B9 d G cal en → OKs G en.2.2.2.1 (Qm G) cal P 0 en.1.1) : MethOK tab B9 en := ⟨h1, h2, fun d hB G cal w htb hn hr hc hf hlo => ⟨P, hP, h d G cal ⟨hB, w, htb, hn, hr, hc, hf, hlo⟩⟩⟩
theorem OKs_nil {G : Gm} {nL : Nat} {Q : Rs → State → Prop} {cal : Cal} {P : Nat → Nat} {i : Nat} : OKs G nL Q cal P i [] := trivial
theorem OKs_cons {G : Gm} {nL : Nat} {Q : Rs → State → Prop} {cal : Cal} {P : Nat → Nat} {i : Nat} {op : Op} {t : List Op} (h : ∀ (nx : Kt) (jp : Nat → Kt), Snd G nL Q nx (P (i + 1)) → (∀ t, Snd G nL Q (jp t) (P t)) → Snd G nL Q (op nx jp cal) (P i)) (ht : OKs G nL Q cal P (i + 1) t) : OKs G nL Q cal P i (op :: t) := ⟨h, ht⟩
end
section
/-! THE SCRIPT'S TWO READERS: 'at' and 'some' -/
theorem dL_at_0 : decode cL_at 0 = .ok (.iload_n 1, 1) := by decide +kernel
theorem dL_at_1 : decode cL_at 1 = .ok (.aload_n 0, 1) := by decide +kernel
theorem dL_at_2 : decode cL_at 2 = .ok (.arraylength, 1) := by decide +kernel
theorem dL_at_3 : decode cL_at 3 = .ok (.if_icmp .ge 9, 3) := by decide +kernel
theorem dL_at_6 : decode cL_at 6 = .ok (.aload_n 0, 1) := by decide +kernel
theorem dL_at_7 : decode cL_at 7 = .ok (.iload_n 1, 1) := by decide +kernel
theorem dL_at_8 : decode cL_at 8 = .ok (.iaload, 1) := by decide +kernel
theorem dL_at_9 : decode cL_at 9 = .ok (.goto 4, 3) := by decide +kernel
theorem dL_at_12 : decode cL_at 12 = .ok (.iconst 0, 1) := by decide +kernel
theorem dL_at_13 : decode cL_at 13 = .ok (.ireturn, 1) := by decide +kernel
theorem dL_some_0 : decode cL_some 0 = .ok (.iload_n 0, 1) := by decide +kernel
theorem dL_some_1 : decode cL_some 1 = .ok (.iload_n 1, 1) := by decide +kernel
theorem dL_some_2 : decode cL_some 2 = .ok (.irem, 1) := by decide +kernel
theorem dL_some_3 : decode cL_some 3 = .ok (.istore_n 2, 1) := by decide +kernel
theorem dL_some_4 : decode cL_some 4 = .ok (.iload_n 2, 1) := by decide +kernel
theorem dL_some_5 : decode cL_some 5 = .ok (.ifCond .ge 9, 3) := by decide +kernel
theorem dL_some_8 : decode cL_some 8 = .ok (.iload_n 2, 1) := by decide +kernel
theorem dL_some_9 : decode cL_some 9 = .ok (.iload_n 1, 1) := by decide +kernel
theorem dL_some_10 : decode cL_some 10 = .ok (.iadd, 1) := by decide +kernel
theorem dL_some_11 : decode cL_some 11 = .ok (.goto 4, 3) := by decide +kernel
theorem dL_some_14 : decode cL_some 14 = .ok (.iload_n 2, 1) := by decide +kernel
theorem dL_some_15 : decode cL_some 15 = .ok (.ireturn, 1) := by decide +kernel
def sm (x m : Int32) : Int32 := if 0 ≤ x % m then x % m else x % m + m
theorem sm_rng (x : Int32) {m : Nat} (h1 : 1 ≤ m) (h2 : m ≤ 1000) : ∃ v, v < m ∧ sm x (nI m) = nI v := by
  have hm : (nI m).toInt = (m : Int) := nI_toInt (by omega)
  have hr : (x % nI m).toInt = x.toInt.tmod (m : Int) := by rw [Int32.toInt_mod, hm]
  have hb1 : x.toInt.tmod (m : Int) < (m : Int) := Int.tmod_lt_of_pos _ (by omega)
  have hb2 : -(m : Int) < x.toInt.tmod (m : Int) := Int.lt_tmod_of_pos _ (by omega)
  unfold sm
  by_cases h : 0 ≤ x % nI m
  · rw [if_pos h]
    have h3 : 0 ≤ x.toInt.tmod (m : Int) := by
      have := Int32.le_iff_toInt_le.mp h
      rwa [hr, show (0 : Int32).toInt = 0 from by decide] at this
    refine ⟨(x.toInt.tmod (m : Int)).toNat, by omega, Int32.toInt_inj.mp ?_⟩
    rw [hr, nI_toInt (by omega)]
    omega
  · rw [if_neg h]
    have h3 : ¬ 0 ≤ x.toInt.tmod (m : Int) := by
      intro q
      refine h (Int32.le_iff_toInt_le.mpr ?_)
      rw [hr, show (0 : Int32).toInt = 0 from by decide]
      exact q
    refine ⟨(x.toInt.tmod (m : Int) + m).toNat, by omega, Int32.toInt_inj.mp ?_⟩
    rw [Int32.toInt_add, hr, hm, nI_toInt (by omega)]
    show Int.bmod _ 4294967296 = _
    rw [Int.bmod_def]
    split <;> omega
noncomputable def a_at (as : List AV) (h : AH) (z c n : Nat) : RR := match as with
  | [.inr (.inr (.inr (.inr (.inr 0)))), .inl k] => e_if (Nat.ble k 999) (some (.inl (.inl (some (.inr (.inr (.inr (.inr (.inr (k + 3)))))))), h, z, c, n)) none
  | _ => none
noncomputable def o_atb : Op := fun _ _ _ l s h z c n => e_nil s (a_at l h z c n)
theorem a_at_inv {as : List AV} {h : AH} {z c n : Nat} {r : Rs} (hr : a_at as h z c n = some r) : ∃ k, k ≤ 999 ∧ as = [.inr (.inr (.inr (.inr (.inr 0)))), .inl k] ∧ r = (.inl (.inl (some (.inr (.inr (.inr (.inr (.inr (k + 3)))))))), h, z, c, n) := by
  unfold a_at at hr
  split at hr
  · rename_i k
    obtain ⟨h1, h2⟩ := e_if_t hr
    exact ⟨k, Nat.le_of_ble_eq_true h1, rfl, (Option.some.inj h2).symm⟩
  · exact no_none hr
noncomputable def e_vs (vs : List (Nat × (Nat × Nat))) (k m : Nat) (f : Nat → RR) : RR := List.rec (motive := fun _ => RR) none (fun q _ ih => e_if (Nat.beq q.1 k) (e_if (Nat.beq q.2.1 m) (f q.2.2) ih) ih) vs
theorem e_vs_inv {vs : List (Nat × (Nat × Nat))} {k m : Nat} {f : Nat → RR} {r : Rs} (h : e_vs vs k m f = some r) : ∃ v, (k, m, v) ∈ vs ∧ f v = some r := by
  induction vs with
  | nil => exact no_none h
  | cons q t ih =>
    obtain ⟨a, b, v⟩ := q
    rcases e_if_inv (show e_if (Nat.beq a k) (e_if (Nat.beq b m) (f v) (e_vs t k m f)) (e_vs t k m f) = some r from h) with ⟨h1, h2⟩ | ⟨-, h2⟩
    · rcases e_if_inv h2 with ⟨h3, h4⟩ | ⟨-, h4⟩
      · cases Nat.eq_of_beq_eq_true h1
        cases Nat.eq_of_beq_eq_true h3
        exact ⟨v, List.mem_cons_self, h4⟩
      · obtain ⟨w, h5, h6⟩ := ih h4
        exact ⟨w, List.mem_cons_of_mem _ h5, h6⟩
    · obtain ⟨w, h5, h6⟩ := ih h2
      exact ⟨w, List.mem_cons_of_mem _ h5, h6⟩
noncomputable def a_some (vs : List (Nat × (Nat × Nat))) (as : List AV) (h : AH) (z c n : Nat) : RR := match as with
  | [.inr (.inr (.inr (.inr (.inr (k + 3))))), .inl m] => e_vs vs k m fun v => some (.inl (.inl (some (.inl v))), h, z, c, n)
  | _ => none
theorem a_some_inv {vs : List (Nat × (Nat × Nat))} {as : List AV} {h : AH} {z c n : Nat} {r : Rs} (hr : a_some vs as h z c n = some r) : ∃ k m v, (k, m, v) ∈ vs ∧ as = [.inr (.inr (.inr (.inr (.inr (k + 3))))), .inl m] ∧ r = (.inl (.inl (some (.inl v))), h, z, c, n) := by
  unfold a_some at hr
  split at hr
  · rename_i k m
    obtain ⟨v, h1, h2⟩ := e_vs_inv hr
    exact ⟨k, m, v, h1, rfl, (Option.some.inj h2).symm⟩
  · exact no_none hr
noncomputable def a_smb (vs : List (Nat × (Nat × Nat))) (l : List AV) (h : AH) (z c n : Nat) : RR := match l with
  | [a, b, _] => a_some vs [a, b] h z c n
  | _ => none
noncomputable def o_smb (vs : List (Nat × (Nat × Nat))) : Op := fun _ _ _ l s h z c n => e_nil s (a_smb vs l h z c n)
/-- what the script's ints come to -/
def vsOK (X : Nat × (Nat × (Nat → Int32))) (vs : List (Nat × (Nat × Nat))) : Prop := X.2.1 ≤ 260 ∧ ∀ q ∈ vs, (1 ≤ q.2.1 ∧ q.2.1 ≤ 1000) ∧ q.2.2 < q.2.1 ∧ sm (xAt X q.1) (nI q.2.1) = nI q.2.2
section SCRIPT
variable {G : Gm} {nx : Kt} {jp : Nat → Kt} {cal : Cal}
theorem at_snd (w : Wk G cL_at 2 RL) (hL : (gX G).2.1 ≤ 260) (hre : (gk G).sig.returnType = some .int) : Snd G 2 (Qm G) (o_atb nx jp cal) 0 := by
  intro lv st h z cn sn r hr
  obtain ⟨rfl, h1⟩ := e_nil_inv (show e_nil st (a_at lv h z cn sn) = some r from hr)
  obtain ⟨k, hk, rfl, rfl⟩ := a_at_inv h1
  refine ⟨⟨Nat.le_refl _, Nat.le_refl _⟩, fun hcc hss ρ ws ls Vs H locs S => ?_⟩
  cases vl_nil S.2.1
  obtain ⟨V0, h0, hV0⟩ := LR_at S.1 (j := 0) rfl (by intro q; cases q)
  cases (show V0 = .ref (gX G).1 from hV0)
  obtain ⟨V1, h1, hV1⟩ := LR_at S.1 (j := 1) rfl (by intro q; cases q)
  obtain ⟨-, rfl⟩ := (show k < 4294967296 ∧ V1 = .int (nI k) from hV1)
  obtain ⟨-, -, -, -, -, hX, hbl, hbA0, -⟩ := w.cx
  have hbA : ¬ gA G (gX G).1 := fun q => hbA0 (w.sub _ q)
  have hS := S.2.2.2.2.2.2
  have hL2 : (gX G).2.1 < 2 ^ 31 := by omega
  refine lv_iload_n w.1 w.2.1 dL_at_0 rfl h1 ?_
  refine lv_aload_n w.1 w.2.1 dL_at_1 rfl h0 ?_
  refine va_slen w.1 w.2.1 hX hbl hbA hS dL_at_2 ?_
  have hret : ∀ (v : Int32), v = xAt (gX G) k → gW G H locs cn sn (Qm G (.inl (.inl (some (.inr (.inr (.inr (.inr (.inr (k + 3)))))))), h, z, cn, sn)) (F0 (gm G) 13 ls [.int v]) := fun v hv =>
    vx_ret (W.iret (Qc := Qc G.2.2 (.inl (.inl (some (.inr (.inr (.inr (.inr (.inr (k + 3)))))))), h, z, cn, sn)) w.1 w.2.1 hre (q_end (o := .inl (.inl (some (.inr (.inr (.inr (.inr (.inr (k + 3)))))))) ) S (V := some (.int v)) (by show Value.int v = _; rw [hv]) _) S.2.2.2.2.2.2.2.2 dL_at_13 w.lk)
  refine lv_icmp_ge (tgt := 12) w.1 w.2.1 dL_at_3 (by decide) (fun c1 => ?_) (fun c1 => ?_)
  · refine lv_iconst (v := 0) w.1 w.2.1 dL_at_12 (by decide) ?_
    refine hret 0 ?_
    unfold xAt
    rw [if_neg]
    intro q
    exact nI_ge q (by omega) c1
  · have hlt : k < (gX G).2.1 := by
      rcases Nat.lt_or_ge k (gX G).2.1 with q | q
      · exact q
      · exact absurd (nI_le q (by omega)) c1
    refine lv_aload_n w.1 w.2.1 dL_at_6 rfl h0 ?_
    refine lv_iload_n w.1 w.2.1 dL_at_7 rfl h1 ?_
    refine va_sld w.1 w.2.1 hX hbl hbA hS (vp_in_nI hlt hL2) dL_at_8 ?_
    refine lv_goto (tgt := 13) w.1 w.2.1 dL_at_9 (by decide) ?_
    refine hret _ ?_
    unfold xAt
    rw [if_pos hlt, nI_clamp (by omega)]
theorem some_snd {vs : List (Nat × (Nat × Nat))} (w : Wk G cL_some 3 RL) (hv : vsOK (gX G) vs) (hre : (gk G).sig.returnType = some .int) : Snd G 3 (Qm G) (o_smb vs nx jp cal) 0 := by
  intro lv st h z cn sn r hr
  obtain ⟨rfl, h1⟩ := e_nil_inv (show e_nil st (a_smb vs lv h z cn sn) = some r from hr)
  unfold a_smb at h1
  split at h1
  rotate_left
  · exact no_none h1
  rename_i a b u
  obtain ⟨k, m, v, hm, he, rfl⟩ := a_some_inv h1
  cases he
  obtain ⟨⟨hm1, hm2⟩, hvm, hsm⟩ := hv.2 _ hm
  have hm1 : 1 ≤ m := hm1
  have hm2 : m ≤ 1000 := hm2
  have hvm : v < m := hvm
  have hsm : sm (xAt (gX G) k) (nI m) = nI v := hsm
  refine ⟨⟨Nat.le_refl _, Nat.le_refl _⟩, fun hcc hss ρ ws ls Vs H locs S => ?_⟩
  cases vl_nil S.2.1
  obtain ⟨-, q, hq, hat⟩ := S.1
  rcases hat 0 _ rfl with e | ⟨V0, m0, hV0⟩
  · cases e
  rcases hat 1 _ rfl with e | ⟨V1, m1, hV1⟩
  · cases e
  cases (show V0 = .int (xAt (gX G) k) from hV0)
  obtain ⟨-, rfl⟩ := (show m < 4294967296 ∧ V1 = .int (nI m) from hV1)
  have h0 := hq.2.2 _ m0
  have h1 := hq.2.2 _ m1
  refine lv_iload_n w.1 w.2.1 dL_some_0 rfl h0 ?_
  refine lv_iload_n w.1 w.2.1 dL_some_1 rfl h1 ?_
  refine lv_irem w.1 w.2.1 dL_some_2 (nI_ne0 (by omega) (by omega)) ?_
  rw [irem_eq_mod]
  refine lv_istore_n w.1 w.2.1 dL_some_3 rfl hq (by decide) rfl (fun ls2 hq2 => ?_)
  have h2 := hq2.2.2 _ List.mem_cons_self
  have h3 := hq2.2.2 (1, Value.int (nI m)) (List.mem_cons_of_mem _ (List.mem_filter.mpr ⟨m1, rfl⟩))
  have hret : ∀ (x : Int32), x = nI v → gW G H locs cn sn (Qm G (.inl (.inl (some (.inl v))), h, z, cn, sn)) (F0 (gm G) 15 ls2 [.int x]) := fun x hx =>
    vx_ret (W.iret (Qc := Qc G.2.2 (.inl (.inl (some (.inl v))), h, z, cn, sn)) w.1 w.2.1 hre (q_end (o := .inl (.inl (some (.inl v)))) S (V := some (.int x)) ⟨by omega, by rw [hx]⟩ _) S.2.2.2.2.2.2.2.2 dL_some_15 w.lk)
  refine lv_iload_n w.1 w.2.1 dL_some_4 rfl h2 ?_
  unfold sm at hsm
  refine lv_if_ge (tgt := 14) w.1 w.2.1 dL_some_5 (by decide) (fun c1 => ?_) (fun c1 => ?_)
  · refine lv_iload_n w.1 w.2.1 dL_some_14 rfl h2 ?_
    rw [if_pos c1] at hsm
    exact hret _ hsm
  · refine lv_iload_n w.1 w.2.1 dL_some_8 rfl h2 ?_
    refine lv_iload_n w.1 w.2.1 dL_some_9 rfl h3 ?_
    refine lv_iadd w.1 w.2.1 dL_some_10 ?_
    refine lv_goto (tgt := 15) w.1 w.2.1 dL_some_11 (by decide) ?_
    rw [if_neg c1] at hsm
    exact hret _ hsm
end SCRIPT
end
section
theorem zz_end : True := trivial
end
