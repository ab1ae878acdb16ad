section
-- ===== PART A: goes FIRST, ahead of the names: the tables' words, and 'selects' of the private methods out of them =====
/-- a private method of a class that the tables say can be made, by its rows of tables_1 -/
def lw_okq (q : MethodName × Nat) : Prop := (q.1.cls ≠ "java/lang/invoke/MethodHandle" ∧ q.1.cls ≠ "java/lang/invoke/VarHandle") ∧ Cond.instantiable q.1.cls q.2 ∈ tables_1 ∧ Cond.privateMethod q.1 ∈ tables_1 ∧ Cond.instanceMethod q.1 ∈ tables_1
theorem lw_p0 : lw_okq (⟨"java/lang/Throwable", "fillInStackTrace", "(I)Ljava/lang/Throwable;"⟩, 6) := ⟨⟨by decide +kernel, by decide +kernel⟩, List.mem_of_getElem? (i := 155) (by decide +kernel), List.mem_of_getElem? (i := 153) (by decide +kernel), List.mem_of_getElem? (i := 154) (by decide +kernel)⟩
theorem lw_p1 : lw_okq (⟨"KinLedger", "isCellColumn", "(II)Z"⟩, 16) := ⟨⟨by decide +kernel, by decide +kernel⟩, List.mem_of_getElem? (i := 18) (by decide +kernel), List.mem_of_getElem? (i := 206) (by decide +kernel), List.mem_of_getElem? (i := 207) (by decide +kernel)⟩
theorem lw_p2 : lw_okq (⟨"KinLedger", "isColumn", "(II)Z"⟩, 16) := ⟨⟨by decide +kernel, by decide +kernel⟩, List.mem_of_getElem? (i := 18) (by decide +kernel), List.mem_of_getElem? (i := 210) (by decide +kernel), List.mem_of_getElem? (i := 211) (by decide +kernel)⟩
theorem lw_p3 : lw_okq (⟨"KinLedger", "isTable", "(I)Z"⟩, 16) := ⟨⟨by decide +kernel, by decide +kernel⟩, List.mem_of_getElem? (i := 18) (by decide +kernel), List.mem_of_getElem? (i := 214) (by decide +kernel), List.mem_of_getElem? (i := 215) (by decide +kernel)⟩
theorem lw_p4 : lw_okq (⟨"KinLedger$Link", "refers", "(LKinLedger$Rows;I)Z"⟩, 4) := ⟨⟨by decide +kernel, by decide +kernel⟩, List.mem_of_getElem? (i := 217) (by decide +kernel), List.mem_of_getElem? (i := 243) (by decide +kernel), List.mem_of_getElem? (i := 244) (by decide +kernel)⟩
theorem lw_p5 : lw_okq (⟨"KinLedger", "refuseIf", "(ZI)V"⟩, 16) := ⟨⟨by decide +kernel, by decide +kernel⟩, List.mem_of_getElem? (i := 18) (by decide +kernel), List.mem_of_getElem? (i := 264) (by decide +kernel), List.mem_of_getElem? (i := 265) (by decide +kernel)⟩
theorem lw_p6 : lw_okq (⟨"KinLedger$Rows", "hasTwinBefore", "(II)Z"⟩, 2) := ⟨⟨by decide +kernel, by decide +kernel⟩, List.mem_of_getElem? (i := 32) (by decide +kernel), List.mem_of_getElem? (i := 310) (by decide +kernel), List.mem_of_getElem? (i := 311) (by decide +kernel)⟩
theorem lw_p7 : lw_okq (⟨"KinLedger$Check", "result", "(LKinLedger$Rows;I)I"⟩, 3) := ⟨⟨by decide +kernel, by decide +kernel⟩, List.mem_of_getElem? (i := 352) (by decide +kernel), List.mem_of_getElem? (i := 373) (by decide +kernel), List.mem_of_getElem? (i := 374) (by decide +kernel)⟩
theorem lw_p8 : lw_okq (⟨"KinLedger$Check", "worked", "(II)I"⟩, 3) := ⟨⟨by decide +kernel, by decide +kernel⟩, List.mem_of_getElem? (i := 352) (by decide +kernel), List.mem_of_getElem? (i := 381) (by decide +kernel), List.mem_of_getElem? (i := 382) (by decide +kernel)⟩
theorem lw_p9 : lw_okq (⟨"KinLedger", "settle", "(I)V"⟩, 16) := ⟨⟨by decide +kernel, by decide +kernel⟩, List.mem_of_getElem? (i := 18) (by decide +kernel), List.mem_of_getElem? (i := 409) (by decide +kernel), List.mem_of_getElem? (i := 410) (by decide +kernel)⟩
theorem lw_p10 : lw_okq (⟨"KinLedger", "whyBroken", "(LKinLedger$Rows;)I"⟩, 16) := ⟨⟨by decide +kernel, by decide +kernel⟩, List.mem_of_getElem? (i := 18) (by decide +kernel), List.mem_of_getElem? (i := 413) (by decide +kernel), List.mem_of_getElem? (i := 414) (by decide +kernel)⟩
theorem lw_p11 : lw_okq (⟨"KinLedger", "markGoing", "(III)V"⟩, 16) := ⟨⟨by decide +kernel, by decide +kernel⟩, List.mem_of_getElem? (i := 18) (by decide +kernel), List.mem_of_getElem? (i := 425) (by decide +kernel), List.mem_of_getElem? (i := 426) (by decide +kernel)⟩
theorem lw_p12 : lw_okq (⟨"KinLedger", "spreadGoing", "()Z"⟩, 16) := ⟨⟨by decide +kernel, by decide +kernel⟩, List.mem_of_getElem? (i := 18) (by decide +kernel), List.mem_of_getElem? (i := 431) (by decide +kernel), List.mem_of_getElem? (i := 432) (by decide +kernel)⟩
theorem lw_p13 : lw_okq (⟨"KinLedger", "losesTarget", "(LKinLedger$Link;I)Z"⟩, 16) := ⟨⟨by decide +kernel, by decide +kernel⟩, List.mem_of_getElem? (i := 18) (by decide +kernel), List.mem_of_getElem? (i := 435) (by decide +kernel), List.mem_of_getElem? (i := 436) (by decide +kernel)⟩
theorem lw_p14 : lw_okq (⟨"KinLedger", "removeGoing", "()I"⟩, 16) := ⟨⟨by decide +kernel, by decide +kernel⟩, List.mem_of_getElem? (i := 18) (by decide +kernel), List.mem_of_getElem? (i := 440) (by decide +kernel), List.mem_of_getElem? (i := 441) (by decide +kernel)⟩
theorem lw_p15 : lw_okq (⟨"KinLedger", "loosenFromGoing", "()I"⟩, 16) := ⟨⟨by decide +kernel, by decide +kernel⟩, List.mem_of_getElem? (i := 18) (by decide +kernel), List.mem_of_getElem? (i := 448) (by decide +kernel), List.mem_of_getElem? (i := 449) (by decide +kernel)⟩
def lw_privs_1 : List (MethodName × Nat) := [(⟨"java/lang/Throwable", "fillInStackTrace", "(I)Ljava/lang/Throwable;"⟩, 6), (⟨"KinLedger", "isCellColumn", "(II)Z"⟩, 16), (⟨"KinLedger", "isColumn", "(II)Z"⟩, 16), (⟨"KinLedger", "isTable", "(I)Z"⟩, 16), (⟨"KinLedger$Link", "refers", "(LKinLedger$Rows;I)Z"⟩, 4), (⟨"KinLedger", "refuseIf", "(ZI)V"⟩, 16), (⟨"KinLedger$Rows", "hasTwinBefore", "(II)Z"⟩, 2), (⟨"KinLedger$Check", "result", "(LKinLedger$Rows;I)I"⟩, 3), (⟨"KinLedger$Check", "worked", "(II)I"⟩, 3), (⟨"KinLedger", "settle", "(I)V"⟩, 16), (⟨"KinLedger", "whyBroken", "(LKinLedger$Rows;)I"⟩, 16), (⟨"KinLedger", "markGoing", "(III)V"⟩, 16), (⟨"KinLedger", "spreadGoing", "()Z"⟩, 16), (⟨"KinLedger", "losesTarget", "(LKinLedger$Link;I)Z"⟩, 16), (⟨"KinLedger", "removeGoing", "()I"⟩, 16), (⟨"KinLedger", "loosenFromGoing", "()I"⟩, 16)]
theorem lw_r1 : ∀ q ∈ lw_privs_1, lw_okq q := List.forall_mem_cons.mpr ⟨lw_p0, List.forall_mem_cons.mpr ⟨lw_p1, List.forall_mem_cons.mpr ⟨lw_p2, List.forall_mem_cons.mpr ⟨lw_p3, List.forall_mem_cons.mpr ⟨lw_p4, List.forall_mem_cons.mpr ⟨lw_p5, List.forall_mem_cons.mpr ⟨lw_p6, List.forall_mem_cons.mpr ⟨lw_p7, List.forall_mem_cons.mpr ⟨lw_p8, List.forall_mem_cons.mpr ⟨lw_p9, List.forall_mem_cons.mpr ⟨lw_p10, List.forall_mem_cons.mpr ⟨lw_p11, List.forall_mem_cons.mpr ⟨lw_p12, List.forall_mem_cons.mpr ⟨lw_p13, List.forall_mem_cons.mpr ⟨lw_p14, List.forall_mem_cons.mpr ⟨lw_p15, fun _ h => absurd h List.not_mem_nil⟩⟩⟩⟩⟩⟩⟩⟩⟩⟩⟩⟩⟩⟩⟩⟩
theorem lw_p16 : lw_okq (⟨"KinLedger", "passOnKey", "(II)I"⟩, 16) := ⟨⟨by decide +kernel, by decide +kernel⟩, List.mem_of_getElem? (i := 18) (by decide +kernel), List.mem_of_getElem? (i := 460) (by decide +kernel), List.mem_of_getElem? (i := 461) (by decide +kernel)⟩
theorem lw_p17 : lw_okq (⟨"KinLedger$Rows", "lesserKeys", "(II)I"⟩, 2) := ⟨⟨by decide +kernel, by decide +kernel⟩, List.mem_of_getElem? (i := 32) (by decide +kernel), List.mem_of_getElem? (i := 515) (by decide +kernel), List.mem_of_getElem? (i := 516) (by decide +kernel)⟩
theorem lw_p18 : lw_okq (⟨"KinLedgerModel", "isColumn", "(II)Z"⟩, 31) := ⟨⟨by decide +kernel, by decide +kernel⟩, List.mem_of_getElem? (i := 548) (by decide +kernel), List.mem_of_getElem? (i := 660) (by decide +kernel), List.mem_of_getElem? (i := 661) (by decide +kernel)⟩
theorem lw_p19 : lw_okq (⟨"KinLedgerModel", "isTable", "(I)Z"⟩, 31) := ⟨⟨by decide +kernel, by decide +kernel⟩, List.mem_of_getElem? (i := 548) (by decide +kernel), List.mem_of_getElem? (i := 664) (by decide +kernel), List.mem_of_getElem? (i := 665) (by decide +kernel)⟩
theorem lw_p20 : lw_okq (⟨"KinLedgerModel", "breaksLink", "(I)Z"⟩, 31) := ⟨⟨by decide +kernel, by decide +kernel⟩, List.mem_of_getElem? (i := 548) (by decide +kernel), List.mem_of_getElem? (i := 668) (by decide +kernel), List.mem_of_getElem? (i := 669) (by decide +kernel)⟩
theorem lw_p21 : lw_okq (⟨"KinLedgerModel", "find", "(II)I"⟩, 31) := ⟨⟨by decide +kernel, by decide +kernel⟩, List.mem_of_getElem? (i := 548) (by decide +kernel), List.mem_of_getElem? (i := 672) (by decide +kernel), List.mem_of_getElem? (i := 673) (by decide +kernel)⟩
theorem lw_p22 : lw_okq (⟨"KinLedgerModel", "twice", "(II)Z"⟩, 31) := ⟨⟨by decide +kernel, by decide +kernel⟩, List.mem_of_getElem? (i := 548) (by decide +kernel), List.mem_of_getElem? (i := 680) (by decide +kernel), List.mem_of_getElem? (i := 681) (by decide +kernel)⟩
theorem lw_p23 : lw_okq (⟨"KinLedgerModel", "isRight", "(I)Z"⟩, 31) := ⟨⟨by decide +kernel, by decide +kernel⟩, List.mem_of_getElem? (i := 548) (by decide +kernel), List.mem_of_getElem? (i := 692) (by decide +kernel), List.mem_of_getElem? (i := 693) (by decide +kernel)⟩
theorem lw_p24 : lw_okq (⟨"KinLedgerModel", "breaksCheck", "(I)Z"⟩, 31) := ⟨⟨by decide +kernel, by decide +kernel⟩, List.mem_of_getElem? (i := 548) (by decide +kernel), List.mem_of_getElem? (i := 696) (by decide +kernel), List.mem_of_getElem? (i := 697) (by decide +kernel)⟩
theorem lw_p25 : lw_okq (⟨"KinLedgerModel", "result", "(II)I"⟩, 31) := ⟨⟨by decide +kernel, by decide +kernel⟩, List.mem_of_getElem? (i := 548) (by decide +kernel), List.mem_of_getElem? (i := 700) (by decide +kernel), List.mem_of_getElem? (i := 701) (by decide +kernel)⟩
theorem lw_p26 : lw_okq (⟨"KinLedgerModel", "remember", "()V"⟩, 31) := ⟨⟨by decide +kernel, by decide +kernel⟩, List.mem_of_getElem? (i := 548) (by decide +kernel), List.mem_of_getElem? (i := 711) (by decide +kernel), List.mem_of_getElem? (i := 712) (by decide +kernel)⟩
theorem lw_p27 : lw_okq (⟨"KinLedgerModel", "settle", "(II)I"⟩, 31) := ⟨⟨by decide +kernel, by decide +kernel⟩, List.mem_of_getElem? (i := 548) (by decide +kernel), List.mem_of_getElem? (i := 715) (by decide +kernel), List.mem_of_getElem? (i := 716) (by decide +kernel)⟩
theorem lw_p28 : lw_okq (⟨"KinLedgerModel", "wrong", "()I"⟩, 31) := ⟨⟨by decide +kernel, by decide +kernel⟩, List.mem_of_getElem? (i := 548) (by decide +kernel), List.mem_of_getElem? (i := 719) (by decide +kernel), List.mem_of_getElem? (i := 720) (by decide +kernel)⟩
theorem lw_p29 : lw_okq (⟨"KinLedgerModel", "restore", "()V"⟩, 31) := ⟨⟨by decide +kernel, by decide +kernel⟩, List.mem_of_getElem? (i := 548) (by decide +kernel), List.mem_of_getElem? (i := 723) (by decide +kernel), List.mem_of_getElem? (i := 724) (by decide +kernel)⟩
theorem lw_p30 : lw_okq (⟨"KinLedgerModel", "spread", "()V"⟩, 31) := ⟨⟨by decide +kernel, by decide +kernel⟩, List.mem_of_getElem? (i := 548) (by decide +kernel), List.mem_of_getElem? (i := 731) (by decide +kernel), List.mem_of_getElem? (i := 732) (by decide +kernel)⟩
theorem lw_p31 : lw_okq (⟨"KinLedgerModel", "referred", "(III)Z"⟩, 31) := ⟨⟨by decide +kernel, by decide +kernel⟩, List.mem_of_getElem? (i := 548) (by decide +kernel), List.mem_of_getElem? (i := 735) (by decide +kernel), List.mem_of_getElem? (i := 736) (by decide +kernel)⟩
def lw_privs_2 : List (MethodName × Nat) := [(⟨"KinLedger", "passOnKey", "(II)I"⟩, 16), (⟨"KinLedger$Rows", "lesserKeys", "(II)I"⟩, 2), (⟨"KinLedgerModel", "isColumn", "(II)Z"⟩, 31), (⟨"KinLedgerModel", "isTable", "(I)Z"⟩, 31), (⟨"KinLedgerModel", "breaksLink", "(I)Z"⟩, 31), (⟨"KinLedgerModel", "find", "(II)I"⟩, 31), (⟨"KinLedgerModel", "twice", "(II)Z"⟩, 31), (⟨"KinLedgerModel", "isRight", "(I)Z"⟩, 31), (⟨"KinLedgerModel", "breaksCheck", "(I)Z"⟩, 31), (⟨"KinLedgerModel", "result", "(II)I"⟩, 31), (⟨"KinLedgerModel", "remember", "()V"⟩, 31), (⟨"KinLedgerModel", "settle", "(II)I"⟩, 31), (⟨"KinLedgerModel", "wrong", "()I"⟩, 31), (⟨"KinLedgerModel", "restore", "()V"⟩, 31), (⟨"KinLedgerModel", "spread", "()V"⟩, 31), (⟨"KinLedgerModel", "referred", "(III)Z"⟩, 31)]
theorem lw_r2 : ∀ q ∈ lw_privs_2, lw_okq q := List.forall_mem_cons.mpr ⟨lw_p16, List.forall_mem_cons.mpr ⟨lw_p17, List.forall_mem_cons.mpr ⟨lw_p18, List.forall_mem_cons.mpr ⟨lw_p19, List.forall_mem_cons.mpr ⟨lw_p20, List.forall_mem_cons.mpr ⟨lw_p21, List.forall_mem_cons.mpr ⟨lw_p22, List.forall_mem_cons.mpr ⟨lw_p23, List.forall_mem_cons.mpr ⟨lw_p24, List.forall_mem_cons.mpr ⟨lw_p25, List.forall_mem_cons.mpr ⟨lw_p26, List.forall_mem_cons.mpr ⟨lw_p27, List.forall_mem_cons.mpr ⟨lw_p28, List.forall_mem_cons.mpr ⟨lw_p29, List.forall_mem_cons.mpr ⟨lw_p30, List.forall_mem_cons.mpr ⟨lw_p31, fun _ h => absurd h List.not_mem_nil⟩⟩⟩⟩⟩⟩⟩⟩⟩⟩⟩⟩⟩⟩⟩⟩
theorem lw_p32 : lw_okq (⟨"KinLedgerModel", "loosen", "()I"⟩, 31) := ⟨⟨by decide +kernel, by decide +kernel⟩, List.mem_of_getElem? (i := 548) (by decide +kernel), List.mem_of_getElem? (i := 739) (by decide +kernel), List.mem_of_getElem? (i := 740) (by decide +kernel)⟩
theorem lw_p33 : lw_okq (⟨"KinLedgerModel", "rename", "(II)I"⟩, 31) := ⟨⟨by decide +kernel, by decide +kernel⟩, List.mem_of_getElem? (i := 548) (by decide +kernel), List.mem_of_getElem? (i := 747) (by decide +kernel), List.mem_of_getElem? (i := 748) (by decide +kernel)⟩
def lw_privs_3 : List (MethodName × Nat) := [(⟨"KinLedgerModel", "loosen", "()I"⟩, 31), (⟨"KinLedgerModel", "rename", "(II)I"⟩, 31)]
theorem lw_r3 : ∀ q ∈ lw_privs_3, lw_okq q := List.forall_mem_cons.mpr ⟨lw_p32, List.forall_mem_cons.mpr ⟨lw_p33, fun _ h => absurd h List.not_mem_nil⟩⟩
def lw_privs : List (MethodName × Nat) := lw_privs_1 ++ (lw_privs_2 ++ (lw_privs_3))
def lw_tbl : List Cond := k2_sels lw_privs ++ tables_1
theorem lw_privs_ok : ∀ q ∈ lw_privs, lw_okq q := by
  show ∀ q ∈ lw_privs_1 ++ (lw_privs_2 ++ (lw_privs_3)), lw_okq q
  exact List.forall_mem_append.mpr ⟨lw_r1, List.forall_mem_append.mpr ⟨lw_r2, lw_r3⟩⟩
end
section
/-! ===== BEGIN words of one list among another's, by their places ===== -/
theorem goodIn_r {big : List Cond} (ws : List Cond) (ps : List Nat) (hp : ws = ps.filterMap (fun i => big[i]?)) (h : ws.all goodWord = true) : GoodIn big ws := by
  intro w hw
  have h1 := List.all_eq_true.mp h w hw
  rw [hp] at hw
  obtain ⟨i, -, hi⟩ := List.mem_filterMap.mp hw
  have hm : w ∈ big := by first | exact List.mem_of_getElem? hi | exact List.getElem?_mem hi
  exact ⟨hm, good_of_word h1⟩
theorem goodIn_app {big a b : List Cond} (ha : GoodIn big a) (hb : GoodIn big b) : GoodIn big (a ++ b) := fun w h => (List.mem_append.mp h).elim (ha w) (hb w)
theorem goodIn_ca {big a b : List Cond} {c : Cond} (ha : GoodIn big (c :: a)) (hb : GoodIn big b) : GoodIn big (c :: (a ++ b)) := fun w h => (List.mem_cons.mp h).elim (fun e => ha w (List.mem_cons.mpr (Or.inl e))) (fun h => (List.mem_append.mp h).elim (fun h => ha w (List.mem_cons.mpr (Or.inr h))) (hb w))
theorem goodIn_sub {big ws : List Cond} (hm : ∀ w ∈ ws, w ∈ big) (h : ws.all goodWord = true) : GoodIn big ws := fun w hw => ⟨hm w hw, good_of_word (List.all_eq_true.mp h w hw)⟩
/-! ===== END ===== -/

/-! ===== BEGIN exceptions that leave a method, and their catching by the caller (launches without stack traces) ===== -/
section VXA
/-! The laws vx_back, vx_callV, vx_callS, vx_callSW, vx_throw0, vx_throwS follow proofs of the library, with one case more: JvmDerived/Free/Laws.lean (Back.of_free), Shelf42/LK1.lean (callV, callS), Shelf/KitTraced.lean (throwNew0V, throwNewS). -/
/-- where a method has thrown q: the class by its name, the cell, what was written, the world -/
def vx_T (XC : String → State → State → Prop) (st : State) (q : Addr) (t : State) (mc ms : Nat) (free : Addr → Prop) : Prop :=
  ∃ (E : String) (ce : Cell) (L : List Loc), XC E st t ∧ t.heap[q]? = some ce ∧ ce.vm = .none ∧ st.vm.findClass E = some ce.cls ∧ st.WarmedH t.vm ∧ st.sameButNew ({ t with vm := st.vm } : State) L mc ms ∧ ∀ z ∈ L, free z.base
def vx_Q (Qc : Array Value → State → Outcome → State → Prop) (XC : String → State → State → Prop) (mc ms : Nat) (free : Addr → Prop) : Array Value → State → Outcome → State → Prop := fun a st o t =>
  (Qc a st o t ∧ ∃ L, FrameEnd st o t L mc ms ∧ ∀ q ∈ L, free q.base) ∨ ∃ q, o = .threw q ∧ vx_T XC st q t mc ms free
/-- a callee that returns or throws -/
def vx_Met (l : Launch) (y : MethodName) (ws : List Cond) (rm : Room) (Pc : Array Value → State → Prop) (Qc : Array Value → State → Outcome → State → Prop) (XC : String → State → State → Prop) (mc ms : Nat) (free : Addr → Prop) : Prop :=
  MetFree l y (headSpec ws rm) Pc (fun _ _ _ _ _ => True) (vx_Q Qc XC mc ms free)
def vx_Post (XC : String → State → State → Prop) (mc ms : Nat) (free : Addr → Prop) : Pt → Array Value → Addr → Pt → Prop := fun A a q B =>
  ∃ (g : JFrame) (mk : MethodId) (t : State) (L : List Loc) (E : String) (ce : Cell), B.U.heap = t.heap ∧ B.U.vm = t.vm ∧ XC E (A.U.calling g mk a) t ∧ t.heap[q]? = some ce ∧ ce.vm = .none ∧ A.U.vm.findClass E = some ce.cls ∧ B.locs = A.locs ++ L ∧ (∀ z ∈ L, free z.base) ∧ B.cells = A.cells + mc ∧ B.slots = A.slots + ms
def vx_Back (l : Launch) (R : Room) (p : Program) (e : Env) (below : List Frame) (s : State) (sargs : Array Value) (y : MethodName) (len W9 : Nat)
    (Pre : Pt → Array Value → Prop) (Post : Pt → Array Value → Option Value → Pt → Prop) (PostX : Pt → Array Value → Addr → Pt → Prop) : Prop :=
  ∀ (m : MethodId) (meth : Method) (c : Code) (A : Pt) (g : JFrame) (ig : Instr) (mk : MethodId) (a : Array Value),
    Stand p l e R s m sargs below meth c A.U A.locs A.cells A.slots → g.method = m → g.locals.size = c.maxLocals → decode c.code g.pc = .ok (ig, len) →
    2 * g.monitorRoom + (g.stack.map fun v => v.category).sum ≤ W9 → A.U.methodNamed? y = some mk → Pre A a →
    (∃ (v : Option Value) (B : Pt), Stand p l e R s m sargs below meth c B.U B.locs B.cells B.slots ∧ Post A a v B ∧
      Steps p.tables e below (doInvoke e (A.U.setTop g) [] mk a).1 (B.U.setTop { g with pc := g.pc + len, stack := v.toList ++ g.stack })) ∨
    (∃ (q : Addr) (B : Pt), Stand p l e R s m sargs below meth c B.U B.locs B.cells B.slots ∧ PostX A a q B ∧
      Steps p.tables e below (doInvoke e (A.U.setTop g) [] mk a).1 ((B.U.setTop g).pushFrame (.throwing q)))
section Payer
variable {l : Launch} {R : Room} {p : Program} {e : Env} {below : List Frame} {s : State} {sargs : Array Value} {y : MethodName} {len W9 : Nat}
theorem vx_back {ws : List Cond} {rm : Room} {Pc : Array Value → State → Prop} {Qc : Array Value → State → Outcome → State → Prop} {XC : String → State → State → Prop} {mc ms : Nat} {free : Addr → Prop} {bytes : ByteArray} {maxL : Nat} {ret : Option FieldType}
    (hM : vx_Met l y ws rm Pc Qc XC mc ms free) (hblind : FrameBlind Pc) (hrc : rm.cells = mc) (hrs : rm.slots = ms)
    (hframes : rm.frames + 1 ≤ R.frames) (hlocals : W9 + (maxL + 11) + rm.locals ≤ R.locals)
    (hws : ∀ w ∈ ws, ∀ a' U, s.WarmedH U.vm → w.before a' U = true) (hcode : Cond.code y bytes maxL ret ∈ ws) (hinit : ∀ a' U, s.WarmedH U.vm → (Cond.initialized y.cls).before a' U = true) :
    vx_Back l R p e below s sargs y len W9 (PreOf R mc ms Pc) (PostOf Qc mc ms free) (vx_Post XC mc ms free) := by
  intro m meth c A g ig mk a X hg hsize hdg hW hn hp
  have h1 : (headSpec ws rm).pre.before a A.U = true := atoms_intro fun w hw => hws w hw _ _ X.warmed
  have h2 : (Cond.code y bytes maxL ret).before a A.U = true := hws _ hcode _ _ X.warmed
  have h3 : (Cond.initialized y.cls).before a A.U = true := hinit _ _ X.warmed
  have h4 : A.cells + (headSpec ws rm).room.cells ≤ R.cells := by rw [show (headSpec ws rm).room.cells = mc from hrc]; exact hp.1
  have h5 : A.slots + (headSpec ws rm).room.slots ≤ R.slots := by rw [show (headSpec ws rm).room.slots = ms from hrs]; exact hp.2.1
  have hPc : Pc a (A.U.calling g mk a) := hblind _ _ _ _ hp.2.2
  obtain ⟨U, Ls, c0, s0⟩ := A
  dsimp only [Pt.U, Pt.locs, Pt.cells, Pt.slots] at h1 h2 h3 h4 h5 X hn hPc ⊢
  obtain ⟨methY, cY, hmY, hcY, -, hlY, -, -, -, -⟩ := Cond.code_spec hn h2
  obtain ⟨kY, hkY, -⟩ := className_of_methodNamed hn
  have hinitY : kY.init = .initialized := Cond.initialized_spec (findClass_of_methodNamed hn) hkY h3
  have h : At U g.method c below := by rw [hg]; exact X.here
  have hlocals9 : W9 + (maxL + 11) + (headSpec ws rm).room.locals ≤ R.locals := hlocals
  have happ : (headSpec ws rm).appliesLoose y e.platform (U.calling g mk a) = true :=
    Spec.appliesLoose_calling (g := g) h hdg hn hkY hinitY
      (X.room_calling (g := g) (R' := (headSpec ws rm).room) hsize hmY hcY hframes (by rw [hlY]; omega) h4 h5) h1
  obtain ⟨mid, hmid⟩ := h.above
  have hfr : (U.setTop g).frames = (.java g :: mid) ++ below := by rw [State.frames_setTop' g h.top, hmid]; rfl
  obtain ⟨o, s₂, hsteps, -, hend, hq⟩ := Steps.callFree hM p X.admits X.cas X.clock (acts := []) hfr happ hPc trivial
  have hq' : vx_Q Qc XC mc ms free a (U.calling g mk a) o s₂ := hq
  rw [State.frames_setTop' g h.top] at hend
  obtain ⟨g₀, hg0⟩ := Option.isSome_iff_exists.mp h.top
  obtain ⟨r, hr⟩ := State.topJava?_eq_some.mp hg0
  have hr' : (({ U with heap := s₂.heap, slotsUsed := s₂.slotsUsed } : State).setVm s₂.vm).frames = .java g₀ :: r := hr
  rcases hq' with ⟨hqc, L, hfe, hL⟩ | ⟨q, rfl, E, ce, L, hx, hce, hcv, hcl, hW₂, hsm, hL⟩
  · obtain ⟨⟨v, rfl⟩, hW₂, e2, q2, q3, q4, q5, q6⟩ := id hfe
    have e3 : s₂ = ({ (U.calling g mk a).setFrames s₂.frames with heap := s₂.heap, slotsUsed := s₂.slotsUsed } : State).setVm s₂.vm := by
      have : s₂ = ({ s₂ with vm := (U.calling g mk a).vm } : State).setVm s₂.vm := rfl
      rw [e2] at this
      exact this
    obtain ⟨c₂, i₂, len₂, hc₂, hd₂, hf₂⟩ := hend
    have hW' : U.WarmedH s₂.vm := hW₂
    have hcc : c₂ = c := by
      have h1 : s₂.code? g.method = U.code? g.method := by
        rw [State.code?_eq, State.code?_eq, hW'.alike.method?]
      exact Option.some.inj (hc₂.symm.trans (h1.trans h.code))
    subst hcc
    have hlen : len₂ = len := by rw [hdg] at hd₂; cases hd₂; rfl
    subst hlen
    have hs₂ : s₂ = (({ U with heap := s₂.heap, slotsUsed := s₂.slotsUsed } : State).setVm s₂.vm).setTop { g with pc := g.pc + len₂, stack := v.toList ++ g.stack } := by
      refine e3.trans ?_
      rw [hf₂, State.calling_eq h.top, State.setFrames_setFrames, State.setTop_of_frames _ hr', hr]
      rfl
    have hsame : U.sameButNew ({ U with heap := s₂.heap, slotsUsed := s₂.slotsUsed } : State) L mc ms := by
      refine ⟨?_, q2, q3, q4, q5, q6⟩
      obtain ⟨t, ht, -⟩ := State.frames_cons hr
      show ({ U with heap := s₂.heap, slotsUsed := s₂.slotsUsed } : State) = { U.setFrames U.frames with heap := s₂.heap, slotsUsed := s₂.slotsUsed }
      rw [State.setFrames_self ht]
    subst hg
    refine Or.inl ⟨v, ⟨(({ U with heap := s₂.heap, slotsUsed := s₂.slotsUsed } : State).setVm s₂.vm), Ls ++ L, c0 + mc, s0 + ms⟩,
      ⟨X.admits, X.cas, X.clock, X.frames, X.room, X.hears, X.method, X.code, (X.here.setHeapUsed s₂.heap s₂.slotsUsed).setVm hW'.alike, X.tail, State.WarmedH.trans X.warmed hW', X.limits, X.bytes, X.same.trans (hsame.setVm s.vm)⟩,
      ⟨g, mk, s₂, L, rfl, rfl, hqc, rfl, hL, rfl, rfl⟩, ?_⟩
    show Steps p.tables e below _ ((({ U with heap := s₂.heap, slotsUsed := s₂.slotsUsed } : State).setVm s₂.vm).setTop { g with pc := g.pc + len₂, stack := v.toList ++ g.stack })
    rw [← hs₂]
    exact hsteps
  · obtain ⟨e2, q2, q3, q4, q5, q6⟩ := id hsm
    have e3 : s₂ = ({ (U.calling g mk a).setFrames s₂.frames with heap := s₂.heap, slotsUsed := s₂.slotsUsed } : State).setVm s₂.vm := by
      have : s₂ = ({ s₂ with vm := (U.calling g mk a).vm } : State).setVm s₂.vm := rfl
      rw [e2] at this
      exact this
    have hf₂ : s₂.frames = .throwing q :: .java g :: U.frames.tail := hend
    have hW' : U.WarmedH s₂.vm := hW₂
    have hs₂ : s₂ = ((({ U with heap := s₂.heap, slotsUsed := s₂.slotsUsed } : State).setVm s₂.vm).setTop g).pushFrame (.throwing q) := by
      refine e3.trans ?_
      rw [hf₂, State.calling_eq h.top, State.setFrames_setFrames, State.pushFrame, State.frames_setTop _ hr', State.setTop_of_frames _ hr', State.setFrames_setFrames, hr]
      rfl
    have hsame : U.sameButNew ({ U with heap := s₂.heap, slotsUsed := s₂.slotsUsed } : State) L mc ms := by
      refine ⟨?_, q2, q3, q4, q5, q6⟩
      obtain ⟨t, ht, -⟩ := State.frames_cons hr
      show ({ U with heap := s₂.heap, slotsUsed := s₂.slotsUsed } : State) = { U.setFrames U.frames with heap := s₂.heap, slotsUsed := s₂.slotsUsed }
      rw [State.setFrames_self ht]
    subst hg
    refine Or.inr ⟨q, ⟨(({ U with heap := s₂.heap, slotsUsed := s₂.slotsUsed } : State).setVm s₂.vm), Ls ++ L, c0 + mc, s0 + ms⟩,
      ⟨X.admits, X.cas, X.clock, X.frames, X.room, X.hears, X.method, X.code, (X.here.setHeapUsed s₂.heap s₂.slotsUsed).setVm hW'.alike, X.tail, State.WarmedH.trans X.warmed hW', X.limits, X.bytes, X.same.trans (hsame.setVm s.vm)⟩,
      ⟨g, mk, s₂, L, E, ce, rfl, rfl, hx, hce, hcv, hcl, rfl, hL, rfl, rfl⟩, ?_⟩
    show Steps p.tables e below _ (((({ U with heap := s₂.heap, slotsUsed := s₂.slotsUsed } : State).setVm s₂.vm).setTop g).pushFrame (.throwing q))
    rw [← hs₂]
    exact hsteps
end Payer
section Calls
variable {p : Program} {l : Launch} {e : Env} {R : Room} {s : State} {m : MethodId} {args : Array Value} {below : List Frame} {meth : Method} {c : Code} {T : State} {locs : List Loc} {cells slots : Nat}
theorem vx_callV (X : Stand p l e R s m args below meth c T locs cells slots) (hexec : p.tables.exec = Jvm.exec) {own C : String} {index : Nat} {y : MethodName} {bytes : ByteArray} {maxL : Nat} {ret : Option FieldType}
    (hown : s.vm.findClass own = some m.cls) (hlink : (Cond.methodLink own index y).before args s = true) (hinst : (Cond.instanceMethod y).before args s = true) (hsel : (Cond.selects C y y).before args s = true)
    (hcode : (Cond.code y bytes maxL ret).before args s = true) (hy : y.cls ≠ "java/lang/invoke/MethodHandle" ∧ y.cls ≠ "java/lang/invoke/VarHandle")
    {W9 : Nat} {Pre : Pt → Array Value → Prop} {Post : Pt → Array Value → Option Value → Pt → Prop} {PostX : Pt → Array Value → Addr → Pt → Prop} (hK : vx_Back l R p e below s args y 3 W9 Pre Post PostX)
    {b : Addr} {cellB : Cell} (hcell : T.heap[b]? = some cellB) (hobj : cellB.vm.isStatics = false) (hcls : s.vm.findClass C = some cellB.cls)
    {g : JFrame} (hg : g.method = m) (hsize : g.locals.size = c.maxLocals) {argsL rest : List Value} (hlen : ∀ sig, parseMethodDescriptor y.desc = some sig → argsL.length = sig.parameters.length)
    (hstack : g.stack = argsL.reverse ++ .ref b :: rest) (hW : 2 * g.monitorRoom + (rest.map fun v => v.category).sum ≤ W9) (hdg : decode c.code g.pc = .ok (.invokevirtual index, 3))
    (hpre : ∀ vm₁, s.WarmedH vm₁ → Pre ⟨T.setVm vm₁, locs, cells, slots⟩ (Value.ref b :: argsL).toArray) :
    (∃ (v : Option Value) (vm₁ : Vm) (B : Pt), s.WarmedH vm₁ ∧ Stand p l e R s m args below meth c B.U B.locs B.cells B.slots ∧ Post ⟨T.setVm vm₁, locs, cells, slots⟩ (Value.ref b :: argsL).toArray v B ∧
      ∀ target, Steps p.tables e below (B.U.setTop { g with pc := g.pc + 3, stack := v.toList ++ rest }) target → Steps p.tables e below (T.setTop g) target) ∨
    (∃ (q : Addr) (vm₁ : Vm) (B : Pt), s.WarmedH vm₁ ∧ Stand p l e R s m args below meth c B.U B.locs B.cells B.slots ∧ PostX ⟨T.setVm vm₁, locs, cells, slots⟩ (Value.ref b :: argsL).toArray q B ∧
      Steps p.tables e below (T.setTop g) ((B.U.setTop { g with stack := rest }).pushFrame (.throwing q))) := by
  obtain ⟨mk, methM, hnamed, hmethM, hstM, habM⟩ := Cond.instanceMethod_spec hinst
  obtain ⟨methM', cM, hmethM', -, -, -, -, -, -, hsigM⟩ := Cond.code_spec hnamed hcode
  cases hmethM.symm.trans hmethM'
  obtain ⟨c2, r2, m2, q1, q2, q3, q4, kP, hkP, hkPi⟩ := Cond.selects_spec hsel
  cases hcls.symm.trans q1
  cases (State.methodFound?_of_named hnamed hy).symm.trans q2
  cases hnamed.symm.trans q3
  have hselP : selectMethod e.platform s.vm cellB.cls mk = .method mk := by rw [Launch.admits_selectMethod X.admits]; exact q4
  obtain ⟨vm₁, X₁, hstep₁⟩ := X.invokevirtual hexec hown hlink hnamed hmethM hstM hkP hkPi hy (a := b) (cell := cellB) hcell
    (fun z h => by rw [h] at hobj; cases hobj) hselP hmethM habM hkP hkPi (g := g) hg (argsL := argsL) (rest := rest) (hlen _ hsigM) hstack hdg
  rcases hK m meth c ⟨T.setVm vm₁, locs, cells, slots⟩ { g with stack := rest } (.invokevirtual index) mk (Value.ref b :: argsL).toArray X₁ hg hsize hdg hW (X₁.named hnamed) (hpre vm₁ X₁.warmed) with ⟨v, B, X', hpost, hsteps⟩ | ⟨q, B, X', hpost, hsteps⟩
  · exact Or.inl ⟨v, vm₁, B, X₁.warmed, X', hpost, fun target h => hstep₁ _ fun acts => by rw [doInvoke_state]; exact hsteps.trans h⟩
  · exact Or.inr ⟨q, vm₁, B, X₁.warmed, X', hpost, hstep₁ _ fun acts => by rw [doInvoke_state]; exact hsteps⟩
theorem vx_callS (X : Stand p l e R s m args below meth c T locs cells slots) (hexec : p.tables.exec = Jvm.exec) {own : String} {index : Nat} {y : MethodName} {bytes : ByteArray} {maxL : Nat} {ret : Option FieldType}
    (hown : s.vm.findClass own = some m.cls) (hlink : (Cond.methodLink own index y).before args s = true) (hstat : (Cond.static y).before args s = true) (hinit : (Cond.initialized y.cls).before args s = true)
    (hcode : (Cond.code y bytes maxL ret).before args s = true) (hy : y.cls ≠ "java/lang/invoke/MethodHandle" ∧ y.cls ≠ "java/lang/invoke/VarHandle")
    {W9 : Nat} {Pre : Pt → Array Value → Prop} {Post : Pt → Array Value → Option Value → Pt → Prop} {PostX : Pt → Array Value → Addr → Pt → Prop} (hK : vx_Back l R p e below s args y 3 W9 Pre Post PostX)
    {g : JFrame} (hg : g.method = m) (hsize : g.locals.size = c.maxLocals) {argsL rest : List Value} (hlen : ∀ sig, parseMethodDescriptor y.desc = some sig → argsL.length = sig.parameters.length)
    (hstack : g.stack = argsL.reverse ++ rest) (hW : 2 * g.monitorRoom + (rest.map fun v => v.category).sum ≤ W9) (hdg : decode c.code g.pc = .ok (.invokestatic index, 3))
    (hpre : ∀ vm₁, s.WarmedH vm₁ → Pre ⟨T.setVm vm₁, locs, cells, slots⟩ argsL.toArray) :
    (∃ (v : Option Value) (vm₁ : Vm) (B : Pt), s.WarmedH vm₁ ∧ Stand p l e R s m args below meth c B.U B.locs B.cells B.slots ∧ Post ⟨T.setVm vm₁, locs, cells, slots⟩ argsL.toArray v B ∧
      ∀ target, Steps p.tables e below (B.U.setTop { g with pc := g.pc + 3, stack := v.toList ++ rest }) target → Steps p.tables e below (T.setTop g) target) ∨
    (∃ (q : Addr) (vm₁ : Vm) (B : Pt), s.WarmedH vm₁ ∧ Stand p l e R s m args below meth c B.U B.locs B.cells B.slots ∧ PostX ⟨T.setVm vm₁, locs, cells, slots⟩ argsL.toArray q B ∧
      Steps p.tables e below (T.setTop g) ((B.U.setTop { g with stack := rest }).pushFrame (.throwing q))) := by
  obtain ⟨mk, hnamed⟩ := Cond.code_named hcode
  obtain ⟨methM, cM, hmethM, -, -, -, -, -, -, hsigM⟩ := Cond.code_spec hnamed hcode
  have hstatic : methM.isStatic = true := Cond.static_spec hnamed hmethM hstat
  obtain ⟨kP, hkP, -⟩ := className_of_methodNamed hnamed
  have hinitP : kP.init = .initialized := Cond.initialized_spec (findClass_of_methodNamed hnamed) hkP hinit
  obtain ⟨vm₁, X₁, hstep₁⟩ := X.invokestatic hexec hown hlink hnamed hmethM hstatic hkP hinitP hy (g := g) hg (argsL := argsL) (rest := rest) (hlen _ hsigM) hstack hdg
  rcases hK m meth c ⟨T.setVm vm₁, locs, cells, slots⟩ { g with stack := rest } (.invokestatic index) mk argsL.toArray X₁ hg hsize hdg hW (X₁.named hnamed) (hpre vm₁ X₁.warmed) with ⟨v, B, X', hpost, hsteps⟩ | ⟨q, B, X', hpost, hsteps⟩
  · exact Or.inl ⟨v, vm₁, B, X₁.warmed, X', hpost, fun target h => hstep₁ _ fun acts => by rw [doInvoke_state]; exact hsteps.trans h⟩
  · exact Or.inr ⟨q, vm₁, B, X₁.warmed, X', hpost, hstep₁ _ fun acts => by rw [doInvoke_state]; exact hsteps⟩
end Calls
theorem vx_cls {s : State} {T : State} {vm₁ : Vm} {E : String} {k : ClassId} (hW : s.WarmedH vm₁) (h : (T.setVm vm₁).vm.findClass E = some k) : s.vm.findClass E = some k := by
  have h1 : vm₁.findClass E = some k := h
  rw [hW.alike.findClass] at h1
  exact h1
/-- the method's frame g, with q thrown over it -/
def vx_W (p : Program) (l : Launch) (e : Env) (R : Room) (s : State) (m : MethodId) (args : Array Value) (below : List Frame) (meth : Method) (c : Code) (H : Heap) (locs : List Loc) (cells slots : Nat) (Q : State → Prop) (g : JFrame) (q : Addr) : Prop :=
  ∀ T : State, T.heap = H → Stand p l e R s m args below meth c T locs cells slots → ∃ t, Steps p.tables e below ((T.setTop g).pushFrame (.throwing q)) t ∧ Q t
def vx_Run (p : Program) (l : Launch) (e : Env) (R : Room) (s : State) (m : MethodId) (args : Array Value) (below : List Frame) (meth : Method) (c : Code) (H : Heap) (locs : List Loc) (cells slots mc ms : Nat) (g : JFrame) (rest : List Value) (Qa : State → Outcome → State → Prop) (XC : String → State → State → Prop) (free : Addr → Prop) : Prop :=
  ∀ T : State, T.heap = H → Stand p l e R s m args below meth c T locs cells slots →
    (∃ (v : Option Value) (st₀ t T' : State) (L : List Loc), st₀.heap = H ∧ Stand p l e R s m args below meth c T' (locs ++ L) (cells + mc) (slots + ms) ∧ (∀ q ∈ L, free q.base) ∧ T'.heap = t.heap ∧ T'.vm = t.vm ∧ Qa st₀ (.returned v) t ∧
      Goes p e below T g T' { g with pc := g.pc + 3, stack := v.toList ++ rest }) ∨
    (∃ (q : Addr) (st₀ t T' : State) (L : List Loc) (E : String) (ce : Cell), st₀.heap = H ∧ Stand p l e R s m args below meth c T' (locs ++ L) (cells + mc) (slots + ms) ∧ (∀ z ∈ L, free z.base) ∧ T'.heap = t.heap ∧ T'.vm = t.vm ∧ XC E st₀ t ∧ t.heap[q]? = some ce ∧ ce.vm = .none ∧ s.vm.findClass E = some ce.cls ∧
      Steps p.tables e below (T.setTop g) ((T'.setTop { g with stack := rest }).pushFrame (.throwing q)))
def vx_X {S : Type} (px : S → Prop) (B : String → S → State → Prop) (A : Nat → Prop) : String → State → State → Prop := fun E st t => ∃ u : S, px u ∧ B E u t ∧ va_F A st t
section Runs
variable {p : Program} {l : Launch} {e : Env} {R : Room} {s : State} {m : MethodId} {args : Array Value} {below : List Frame} {meth : Method} {c : Code} {H : Heap} {locs : List Loc} {cells slots : Nat}
variable {y : MethodName} {bytes cc : ByteArray} {maxL nL mc ms n index : Nat} {ret : Option FieldType} {ws : List Cond} {rm : Room} {Pc : Array Value → State → Prop} {Qc : Array Value → State → Outcome → State → Prop} {XC : String → State → State → Prop} {free : Addr → Prop} {Ts : List Cond} {own C : String} {b : Addr} {As rest : List Value} {g : JFrame}
theorem vx_callBack (cb : CallB R s args own index y bytes maxL ret ws rm mc ms n) (hM : vx_Met l y ws rm Pc Qc XC mc ms free) (hbl : FrameBlind Pc) : vx_Back l R p e below s args y 3 8 (PreOf R mc ms Pc) (PostOf Qc mc ms free) (vx_Post XC mc ms free) := by
  obtain ⟨hrc, hrs, hfr, hlo, hws, hcw, -, hini, -⟩ := cb
  exact vx_back (bytes := bytes) (maxL := maxL) (ret := ret) hM hbl hrc hrs hfr hlo hws hcw (fun a' U hW => word_at hW (Or.inl (by first | rfl | simp [Cond.onTables, Cond.keeps, Cond.steady])) hini)
theorem vx_runV (S : CallFix p m c cc nL s args Ts own) (hM : vx_Met l y ws rm Pc Qc XC mc ms free) (cw : CallW R s args own C index y bytes maxL ret ws rm mc ms n) (hp : PreV s H C b Pc As)
    (hg : g.method = m) (hn : As.length = n) (hsize : g.locals.size = nL) (hstack : g.stack = As.reverse ++ .ref b :: rest) (hW : 2 * g.monitorRoom + (rest.map fun v => v.category).sum ≤ 8) (hdg : decode cc g.pc = .ok (.invokevirtual index, 3)) (hf : cells + mc ≤ R.cells ∧ slots + ms ≤ R.slots) :
    vx_Run p l e R s m args below meth c H locs cells slots mc ms g rest (Qc (Value.ref b :: As).toArray) XC free := by
  have hK : vx_Back l R p e below s args y 3 8 (PreOf R mc ms Pc) (PostOf Qc mc ms free) (vx_Post XC mc ms free) := vx_callBack cw.1 hM hp.1
  obtain ⟨⟨-, -, -, -, -, -, hcode, -, hy, hlen, hl⟩, hin, hse⟩ := cw
  obtain ⟨hx, hb, hml, ho, -⟩ := S
  obtain ⟨-, ⟨cellB, hcB, hoB, hclB⟩, hPc⟩ := hp
  intro T hT X
  rcases vx_callV X hx (C := C) (bytes := bytes) (maxL := maxL) (ret := ret) ho hl hin hse hcode hy hK (by rw [hT]; exact hcB) hoB hclB hg (hsize.trans hml.symm) (argsL := As) (rest := rest) (fun sig h => hn.trans (hlen sig h)) hstack hW (by rw [hb]; exact hdg)
    (fun vm₁ hW₁ => ⟨hf.1, hf.2, hPc (T.setVm vm₁) hT hW₁⟩) with ⟨v, vm₁, ⟨U', l2, c2, s2⟩, hW₁, X', ⟨g', mk, t, L, e1, e2, hq, h1, hL, h2, h3⟩, st⟩ | ⟨q, vm₁, ⟨U', l2, c2, s2⟩, hW₁, X', ⟨g', mk, t, L, E, ce, e1, e2, hq, hce, hcv, hcl, h1, hL, h2, h3⟩, st⟩
  · dsimp only [Pt.U, Pt.locs, Pt.cells, Pt.slots] at X' e1 e2 h1 h2 h3 st
    subst h1; subst h2; subst h3
    exact Or.inl ⟨v, (T.setVm vm₁).calling g' mk (Value.ref b :: As).toArray, t, U', L, hT, X', hL, e1, e2, hq, st⟩
  · dsimp only [Pt.U, Pt.locs, Pt.cells, Pt.slots] at X' e1 e2 h1 h2 h3 st hcl
    subst h1; subst h2; subst h3
    exact Or.inr ⟨q, (T.setVm vm₁).calling g' mk (Value.ref b :: As).toArray, t, U', L, E, ce, hT, X', hL, e1, e2, hq, hce, hcv, vx_cls hW₁ hcl, st⟩
theorem vx_runS (S : CallFix p m c cc nL s args Ts own) (hM : vx_Met l y ws rm Pc Qc XC mc ms free) (cw : CallB R s args own index y bytes maxL ret ws rm mc ms n ∧ (Cond.static y).before args s = true) (hp : PreS s H Pc As)
    (hg : g.method = m) (hn : As.length = n) (hsize : g.locals.size = nL) (hstack : g.stack = As.reverse ++ rest) (hW : 2 * g.monitorRoom + (rest.map fun v => v.category).sum ≤ 8) (hdg : decode cc g.pc = .ok (.invokestatic index, 3)) (hf : cells + mc ≤ R.cells ∧ slots + ms ≤ R.slots) :
    vx_Run p l e R s m args below meth c H locs cells slots mc ms g rest (Qc As.toArray) XC free := by
  have hK : vx_Back l R p e below s args y 3 8 (PreOf R mc ms Pc) (PostOf Qc mc ms free) (vx_Post XC mc ms free) := vx_callBack cw.1 hM hp.1
  obtain ⟨⟨-, -, -, -, -, -, hcode, hini, hy, hlen, hl⟩, hstt⟩ := cw
  obtain ⟨hx, hb, hml, ho, -⟩ := S
  intro T hT X
  rcases vx_callS X hx (bytes := bytes) (maxL := maxL) (ret := ret) ho hl hstt hini hcode hy hK hg (hsize.trans hml.symm) (argsL := As) (rest := rest) (fun sig h => hn.trans (hlen sig h)) hstack hW (by rw [hb]; exact hdg)
    (fun vm₁ hW₁ => ⟨hf.1, hf.2, hp.2 (T.setVm vm₁) hT hW₁⟩) with ⟨v, vm₁, ⟨U', l2, c2, s2⟩, hW₁, X', ⟨g', mk, t, L, e1, e2, hq, h1, hL, h2, h3⟩, st⟩ | ⟨q, vm₁, ⟨U', l2, c2, s2⟩, hW₁, X', ⟨g', mk, t, L, E, ce, e1, e2, hq, hce, hcv, hcl, h1, hL, h2, h3⟩, st⟩
  · dsimp only [Pt.U, Pt.locs, Pt.cells, Pt.slots] at X' e1 e2 h1 h2 h3 st
    subst h1; subst h2; subst h3
    exact Or.inl ⟨v, (T.setVm vm₁).calling g' mk As.toArray, t, U', L, hT, X', hL, e1, e2, hq, st⟩
  · dsimp only [Pt.U, Pt.locs, Pt.cells, Pt.slots] at X' e1 e2 h1 h2 h3 st hcl
    subst h1; subst h2; subst h3
    exact Or.inr ⟨q, (T.setVm vm₁).calling g' mk As.toArray, t, U', L, E, ce, hT, X', hL, e1, e2, hq, hce, hcv, vx_cls hW₁ hcl, st⟩
end Runs
section Rows
variable {p : Program} {l : Launch} {e : Env} {R : Room} {s : State} {m : MethodId} {args : Array Value} {below : List Frame} {meth : Method} {c : Code} {H : Heap} {locs : List Loc} {cells slots : Nat} {Q : State → Prop}
variable {mc ms : Nat} {free : Addr → Prop} {A0 A1 : Nat → Prop} {H0 : Heap} {a : Array Value} {pc : Nat} {ls : Array Slot} {st0 rest : List Value}
theorem vx_keep {st₀ t T' : State} {L : List Loc} (h0 : st₀.heap = H) (e1 : T'.heap = t.heap) (hS : va_S A0 H0 H locs) (hA : ∀ q, q < H.size → A1 q → A0 q) (hf : ∀ q, free q → A0 q) (hL : ∀ q ∈ L, free q.base) (hF : va_F A1 st₀ t) :
    H.size ≤ T'.heap.size ∧ (∀ q : Nat, q < H.size → ¬ A1 q → T'.heap[q]? = H[q]?) ∧ va_S A0 H0 T'.heap (locs ++ L) := by
  obtain ⟨hz, hk⟩ := hF
  rw [h0] at hz hk
  exact ⟨by rw [e1]; exact hz, fun q h1 h2 => by rw [e1]; exact hk q h1 h2,
    ⟨Nat.le_trans hS.1 (by rw [e1]; exact hz), fun q h1 h2 => by rw [e1, hk q (Nat.lt_of_lt_of_le h1 hS.1) (fun z => h2 (hA q (Nat.lt_of_lt_of_le h1 hS.1) z))]; exact hS.2.1 q h1 h2, fun q hq => by
      rcases List.mem_append.mp hq with h | h
      · exact hS.2.2 q h
      · exact hf _ (hL q h)⟩⟩
theorem vx_calli {S SX : Type} {post : Int32 → S → Prop} {px : SX → Prop} {B : S → State → Prop} {BX : String → SX → State → Prop} {AX : Nat → Prop} (hr : vx_Run p l e R s m args below meth c H locs cells slots mc ms (F0 m pc ls st0) rest (va_Qi post B A1 a) (vx_X px BX AX) free) (hS : va_S A0 H0 H locs) (hA : ∀ q, q < H.size → A1 q → A0 q) (hf : ∀ q, free q → A0 q) (hAX : ∀ q, q < H.size → AX q → A0 q)
    (kx : ∀ (E : String) (ce : Cell) (q9 : Addr) (u : SX) (t : State) (H1 : Heap) (locs1 : List Loc), t.heap = H1 → s.vm.Alike t.vm → px u → BX E u t → H.size ≤ H1.size → (∀ q : Nat, q < H.size → ¬ AX q → H1[q]? = H[q]?) → va_S A0 H0 H1 locs1 → H1[q9]? = some ce → ce.vm = .none → s.vm.findClass E = some ce.cls → vx_W p l e R s m args below meth c H1 locs1 (cells + mc) (slots + ms) Q (F0 m pc ls rest) q9)
    (kk : ∀ (r : Int32) (u : S) (t : State) (H1 : Heap) (locs1 : List Loc), t.heap = H1 → s.vm.Alike t.vm → post r u → B u t → H.size ≤ H1.size → (∀ q : Nat, q < H.size → ¬ A1 q → H1[q]? = H[q]?) → va_S A0 H0 H1 locs1 → W p l e R s m args below meth c H1 locs1 (cells + mc) (slots + ms) Q (F0 m (pc + 3) ls (.int r :: rest))) : W p l e R s m args below meth c H locs cells slots Q (F0 m pc ls st0) := by
  intro T hT X
  rcases hr T hT X with ⟨v, st₀, t, T', L, h0, X', hL, e1, e2, ⟨⟨r, u, hv, hp, hb⟩, hF⟩, st⟩ | ⟨q, st₀, t, T', L, E, ce, h0, X', hL, e1, e2, ⟨u, hp, hb, hF⟩, hce, hcv, hcl, st⟩
  · cases hv
    obtain ⟨k1, k2, k3⟩ := vx_keep h0 e1 hS hA hf hL hF
    obtain ⟨t2, a1, b1⟩ := kk r u t T'.heap (locs ++ L) e1.symm (by rw [← e2]; exact X'.warmed.alike) hp hb k1 k2 k3 T' rfl X'
    exact ⟨t2, st t2 a1, b1⟩
  · obtain ⟨k1, k2, k3⟩ := vx_keep h0 e1 hS hAX hf hL hF
    obtain ⟨t2, a1, b1⟩ := kx E ce q u t T'.heap (locs ++ L) e1.symm (by rw [← e2]; exact X'.warmed.alike) hp hb k1 k2 k3 (by rw [e1]; exact hce) hcv hcl T' rfl X'
    exact ⟨t2, st.trans a1, b1⟩
theorem vx_calll {S SX : Type} {post : Int64 → S → Prop} {px : SX → Prop} {B : S → State → Prop} {BX : String → SX → State → Prop} {AX : Nat → Prop} (hr : vx_Run p l e R s m args below meth c H locs cells slots mc ms (F0 m pc ls st0) rest (va_Ql post B A1 a) (vx_X px BX AX) free) (hS : va_S A0 H0 H locs) (hA : ∀ q, q < H.size → A1 q → A0 q) (hf : ∀ q, free q → A0 q) (hAX : ∀ q, q < H.size → AX q → A0 q)
    (kx : ∀ (E : String) (ce : Cell) (q9 : Addr) (u : SX) (t : State) (H1 : Heap) (locs1 : List Loc), t.heap = H1 → s.vm.Alike t.vm → px u → BX E u t → H.size ≤ H1.size → (∀ q : Nat, q < H.size → ¬ AX q → H1[q]? = H[q]?) → va_S A0 H0 H1 locs1 → H1[q9]? = some ce → ce.vm = .none → s.vm.findClass E = some ce.cls → vx_W p l e R s m args below meth c H1 locs1 (cells + mc) (slots + ms) Q (F0 m pc ls rest) q9)
    (kk : ∀ (r : Int64) (u : S) (t : State) (H1 : Heap) (locs1 : List Loc), t.heap = H1 → s.vm.Alike t.vm → post r u → B u t → H.size ≤ H1.size → (∀ q : Nat, q < H.size → ¬ A1 q → H1[q]? = H[q]?) → va_S A0 H0 H1 locs1 → W p l e R s m args below meth c H1 locs1 (cells + mc) (slots + ms) Q (F0 m (pc + 3) ls (.long r :: rest))) : W p l e R s m args below meth c H locs cells slots Q (F0 m pc ls st0) := by
  intro T hT X
  rcases hr T hT X with ⟨v, st₀, t, T', L, h0, X', hL, e1, e2, ⟨⟨r, u, hv, hp, hb⟩, hF⟩, st⟩ | ⟨q, st₀, t, T', L, E, ce, h0, X', hL, e1, e2, ⟨u, hp, hb, hF⟩, hce, hcv, hcl, st⟩
  · cases hv
    obtain ⟨k1, k2, k3⟩ := vx_keep h0 e1 hS hA hf hL hF
    obtain ⟨t2, a1, b1⟩ := kk r u t T'.heap (locs ++ L) e1.symm (by rw [← e2]; exact X'.warmed.alike) hp hb k1 k2 k3 T' rfl X'
    exact ⟨t2, st t2 a1, b1⟩
  · obtain ⟨k1, k2, k3⟩ := vx_keep h0 e1 hS hAX hf hL hF
    obtain ⟨t2, a1, b1⟩ := kx E ce q u t T'.heap (locs ++ L) e1.symm (by rw [← e2]; exact X'.warmed.alike) hp hb k1 k2 k3 (by rw [e1]; exact hce) hcv hcl T' rfl X'
    exact ⟨t2, st.trans a1, b1⟩
theorem vx_callf {S SX : Type} {post : UInt32 → S → Prop} {px : SX → Prop} {B : S → State → Prop} {BX : String → SX → State → Prop} {AX : Nat → Prop} (hr : vx_Run p l e R s m args below meth c H locs cells slots mc ms (F0 m pc ls st0) rest (va_Qf post B A1 a) (vx_X px BX AX) free) (hS : va_S A0 H0 H locs) (hA : ∀ q, q < H.size → A1 q → A0 q) (hf : ∀ q, free q → A0 q) (hAX : ∀ q, q < H.size → AX q → A0 q)
    (kx : ∀ (E : String) (ce : Cell) (q9 : Addr) (u : SX) (t : State) (H1 : Heap) (locs1 : List Loc), t.heap = H1 → s.vm.Alike t.vm → px u → BX E u t → H.size ≤ H1.size → (∀ q : Nat, q < H.size → ¬ AX q → H1[q]? = H[q]?) → va_S A0 H0 H1 locs1 → H1[q9]? = some ce → ce.vm = .none → s.vm.findClass E = some ce.cls → vx_W p l e R s m args below meth c H1 locs1 (cells + mc) (slots + ms) Q (F0 m pc ls rest) q9)
    (kk : ∀ (r : UInt32) (u : S) (t : State) (H1 : Heap) (locs1 : List Loc), t.heap = H1 → s.vm.Alike t.vm → post r u → B u t → H.size ≤ H1.size → (∀ q : Nat, q < H.size → ¬ A1 q → H1[q]? = H[q]?) → va_S A0 H0 H1 locs1 → W p l e R s m args below meth c H1 locs1 (cells + mc) (slots + ms) Q (F0 m (pc + 3) ls (.float r :: rest))) : W p l e R s m args below meth c H locs cells slots Q (F0 m pc ls st0) := by
  intro T hT X
  rcases hr T hT X with ⟨v, st₀, t, T', L, h0, X', hL, e1, e2, ⟨⟨r, u, hv, hp, hb⟩, hF⟩, st⟩ | ⟨q, st₀, t, T', L, E, ce, h0, X', hL, e1, e2, ⟨u, hp, hb, hF⟩, hce, hcv, hcl, st⟩
  · cases hv
    obtain ⟨k1, k2, k3⟩ := vx_keep h0 e1 hS hA hf hL hF
    obtain ⟨t2, a1, b1⟩ := kk r u t T'.heap (locs ++ L) e1.symm (by rw [← e2]; exact X'.warmed.alike) hp hb k1 k2 k3 T' rfl X'
    exact ⟨t2, st t2 a1, b1⟩
  · obtain ⟨k1, k2, k3⟩ := vx_keep h0 e1 hS hAX hf hL hF
    obtain ⟨t2, a1, b1⟩ := kx E ce q u t T'.heap (locs ++ L) e1.symm (by rw [← e2]; exact X'.warmed.alike) hp hb k1 k2 k3 (by rw [e1]; exact hce) hcv hcl T' rfl X'
    exact ⟨t2, st.trans a1, b1⟩
theorem vx_calld {S SX : Type} {post : UInt64 → S → Prop} {px : SX → Prop} {B : S → State → Prop} {BX : String → SX → State → Prop} {AX : Nat → Prop} (hr : vx_Run p l e R s m args below meth c H locs cells slots mc ms (F0 m pc ls st0) rest (va_Qd post B A1 a) (vx_X px BX AX) free) (hS : va_S A0 H0 H locs) (hA : ∀ q, q < H.size → A1 q → A0 q) (hf : ∀ q, free q → A0 q) (hAX : ∀ q, q < H.size → AX q → A0 q)
    (kx : ∀ (E : String) (ce : Cell) (q9 : Addr) (u : SX) (t : State) (H1 : Heap) (locs1 : List Loc), t.heap = H1 → s.vm.Alike t.vm → px u → BX E u t → H.size ≤ H1.size → (∀ q : Nat, q < H.size → ¬ AX q → H1[q]? = H[q]?) → va_S A0 H0 H1 locs1 → H1[q9]? = some ce → ce.vm = .none → s.vm.findClass E = some ce.cls → vx_W p l e R s m args below meth c H1 locs1 (cells + mc) (slots + ms) Q (F0 m pc ls rest) q9)
    (kk : ∀ (r : UInt64) (u : S) (t : State) (H1 : Heap) (locs1 : List Loc), t.heap = H1 → s.vm.Alike t.vm → post r u → B u t → H.size ≤ H1.size → (∀ q : Nat, q < H.size → ¬ A1 q → H1[q]? = H[q]?) → va_S A0 H0 H1 locs1 → W p l e R s m args below meth c H1 locs1 (cells + mc) (slots + ms) Q (F0 m (pc + 3) ls (.double r :: rest))) : W p l e R s m args below meth c H locs cells slots Q (F0 m pc ls st0) := by
  intro T hT X
  rcases hr T hT X with ⟨v, st₀, t, T', L, h0, X', hL, e1, e2, ⟨⟨r, u, hv, hp, hb⟩, hF⟩, st⟩ | ⟨q, st₀, t, T', L, E, ce, h0, X', hL, e1, e2, ⟨u, hp, hb, hF⟩, hce, hcv, hcl, st⟩
  · cases hv
    obtain ⟨k1, k2, k3⟩ := vx_keep h0 e1 hS hA hf hL hF
    obtain ⟨t2, a1, b1⟩ := kk r u t T'.heap (locs ++ L) e1.symm (by rw [← e2]; exact X'.warmed.alike) hp hb k1 k2 k3 T' rfl X'
    exact ⟨t2, st t2 a1, b1⟩
  · obtain ⟨k1, k2, k3⟩ := vx_keep h0 e1 hS hAX hf hL hF
    obtain ⟨t2, a1, b1⟩ := kx E ce q u t T'.heap (locs ++ L) e1.symm (by rw [← e2]; exact X'.warmed.alike) hp hb k1 k2 k3 (by rw [e1]; exact hce) hcv hcl T' rfl X'
    exact ⟨t2, st.trans a1, b1⟩
theorem vx_callv {S SX : Type} {post : S → Prop} {px : SX → Prop} {B : S → State → Prop} {BX : String → SX → State → Prop} {AX : Nat → Prop} (hr : vx_Run p l e R s m args below meth c H locs cells slots mc ms (F0 m pc ls st0) rest (va_Qv post B A1 a) (vx_X px BX AX) free) (hS : va_S A0 H0 H locs) (hA : ∀ q, q < H.size → A1 q → A0 q) (hf : ∀ q, free q → A0 q) (hAX : ∀ q, q < H.size → AX q → A0 q)
    (kx : ∀ (E : String) (ce : Cell) (q9 : Addr) (u : SX) (t : State) (H1 : Heap) (locs1 : List Loc), t.heap = H1 → s.vm.Alike t.vm → px u → BX E u t → H.size ≤ H1.size → (∀ q : Nat, q < H.size → ¬ AX q → H1[q]? = H[q]?) → va_S A0 H0 H1 locs1 → H1[q9]? = some ce → ce.vm = .none → s.vm.findClass E = some ce.cls → vx_W p l e R s m args below meth c H1 locs1 (cells + mc) (slots + ms) Q (F0 m pc ls rest) q9)
    (kk : ∀ (u : S) (t : State) (H1 : Heap) (locs1 : List Loc), t.heap = H1 → s.vm.Alike t.vm → post u → B u t → H.size ≤ H1.size → (∀ q : Nat, q < H.size → ¬ A1 q → H1[q]? = H[q]?) → va_S A0 H0 H1 locs1 → W p l e R s m args below meth c H1 locs1 (cells + mc) (slots + ms) Q (F0 m (pc + 3) ls (rest))) : W p l e R s m args below meth c H locs cells slots Q (F0 m pc ls st0) := by
  intro T hT X
  rcases hr T hT X with ⟨v, st₀, t, T', L, h0, X', hL, e1, e2, ⟨⟨u, hv, hp, hb⟩, hF⟩, st⟩ | ⟨q, st₀, t, T', L, E, ce, h0, X', hL, e1, e2, ⟨u, hp, hb, hF⟩, hce, hcv, hcl, st⟩
  · cases hv
    obtain ⟨k1, k2, k3⟩ := vx_keep h0 e1 hS hA hf hL hF
    obtain ⟨t2, a1, b1⟩ := kk u t T'.heap (locs ++ L) e1.symm (by rw [← e2]; exact X'.warmed.alike) hp hb k1 k2 k3 T' rfl X'
    exact ⟨t2, st t2 a1, b1⟩
  · obtain ⟨k1, k2, k3⟩ := vx_keep h0 e1 hS hAX hf hL hF
    obtain ⟨t2, a1, b1⟩ := kx E ce q u t T'.heap (locs ++ L) e1.symm (by rw [← e2]; exact X'.warmed.alike) hp hb k1 k2 k3 (by rw [e1]; exact hce) hcv hcl T' rfl X'
    exact ⟨t2, st.trans a1, b1⟩
/-- caught by the row x of this method's table; the rows ahead don't take it -/
theorem vx_catch {own name : String} {E : String} {ce : Cell} {q : Addr} (hown : s.vm.findClass own = some m.cls) (pre : List ExceptionTableEntry) (x : ExceptionTableEntry) (suf : List ExceptionTableEntry) (hsplit : c.exceptionTable.toList = pre ++ x :: suf)
    (hpass : ∀ z ∈ pre, covers z pc = false ∨ (z.catchType ≠ 0 ∧ ∃ nm : String, (Cond.classLink own z.catchType nm).before args s = true ∧ va_Nc E nm s)) (hx : covers x pc = true) (h0 : x.catchType ≠ 0)
    (hlink : (Cond.classLink own x.catchType name).before args s = true) (hcast : (Cond.castable E name).before args s = true) (hcell : H[q]? = some ce) (hv : ce.vm = .none) (hcl : s.vm.findClass E = some ce.cls)
    (kk : W p l e R s m args below meth c H locs cells slots Q (F0 m x.handlerPc ls [.ref q])) : vx_W p l e R s m args below meth c H locs cells slots Q (F0 m pc ls rest) q := by
  intro T hT X
  have hpl : e.platform.magicAccessors = ({} : Platform).magicAccessors := by rw [X.admits.platform]
  obtain ⟨c3, c4, hc3, hc4, hasg⟩ := Cond.castable_spec hcast
  cases Option.some.inj (hc3.symm.trans hcl)
  obtain ⟨c5, hc5, hcl5⟩ := Cond.classLink_spec hown hlink e.platform hpl
  cases Option.some.inj (hc4.symm.trans hc5)
  obtain ⟨vm', X', st⟩ := X.thenCaughtThrough q (g := F0 m pc ls rest) rfl (Steps.refl _) (by rw [hT]; exact hcell) (by rw [hv]; rfl) (by obtain ⟨k9, h9, -⟩ := Vm.findClass_spec hcl; exact ⟨k9, h9⟩) pre x suf hsplit
    (fun z hz => by
      rcases hpass z hz with h | ⟨hz0, nm, hl1, hn1⟩
      · exact Or.inl h
      · obtain ⟨c6, hc6, hcl6⟩ := Cond.classLink_spec hown hl1 e.platform hpl
        obtain ⟨a8, b8, h1, h2, h3⟩ := hn1
        cases Option.some.inj (h1.symm.trans hcl)
        cases Option.some.inj (h2.symm.trans hc6)
        exact Or.inr ⟨hz0, _, hcl6, h3⟩) hx (Or.inr ⟨h0, c4, hcl5, hasg⟩)
  obtain ⟨t, a1, b1⟩ := kk (T.setVm vm') hT X'
  exact ⟨t, st.trans a1, b1⟩
end Rows
section Ends
variable {p : Program} {l : Launch} {e : Env} {R : Room} {s : State} {m : MethodId} {args : Array Value} {below : List Frame} {meth : Method} {c : Code} {H : Heap} {locs : List Loc} {cells slots : Nat} {Q : State → Prop}
variable {mc ms : Nat} {free : Addr → Prop} {A0 A1 : Nat → Prop} {H0 : Heap} {a : Array Value} {ls : Array Slot} {st0 rest : List Value}
variable {Qc : Array Value → State → Outcome → State → Prop} {XC : String → State → State → Prop}
/-- what a body that may throw owes at its end -/
def vx_MQ (below : List Frame) (Qc : Array Value → State → Outcome → State → Prop) (XC : String → State → State → Prop) (a : Array Value) (s : State) (mc ms : Nat) (free : Addr → Prop) : State → Prop := fun t =>
  ∃ o, t.status = .running ∧ Ended t below o ∧ vx_Q Qc XC mc ms free a s o t
theorem vx_ret {g : JFrame} {mc ms : Nat} (k : W p l e R s m args below meth c H locs cells slots (MQ below Qc args s mc ms free) g) : W p l e R s m args below meth c H locs cells slots (vx_MQ below Qc XC args s mc ms free) g := by
  intro T hT X
  obtain ⟨t, a1, o, b1, b2, b3, b4⟩ := k T hT X
  exact ⟨t, a1, o, b1, b2, Or.inl ⟨b3, b4⟩⟩
/-- not caught here: it goes on to the caller -/
theorem vx_widen {g : JFrame} {q : Addr} {k n : Nat} (h1 : cells ≤ k) (h2 : slots ≤ n) (kk : vx_W p l e R s m args below meth c H locs k n Q g q) : vx_W p l e R s m args below meth c H locs cells slots Q g q := fun T hT X => kk T hT (stand_widen X h1 h2)
theorem vx_out {pc : Nat} {E : String} {ce : Cell} {q : Addr} {mc ms : Nat} (hout : ∀ x ∈ c.exceptionTable.toList, covers x pc = false) (hlocks : meth.locks = false) (hcell : H[q]? = some ce) (hv : ce.vm = .none) (hcl : s.vm.findClass E = some ce.cls)
    (hx : ∀ t : State, t.heap = H → s.vm.Alike t.vm → XC E s t) (hf : ∀ z ∈ locs, free z.base) (hc : cells ≤ mc) (hs : slots ≤ ms) :
    vx_W p l e R s m args below meth c H locs cells slots (vx_MQ below Qc XC args s mc ms free) (F0 m pc ls rest) q := by
  intro T hT X
  obtain ⟨st1, hrun, hend, hW, hsm⟩ := X.leaveThrown q (g := F0 m pc ls rest) rfl rfl rfl hout hlocks
  have hcell9 : (T.setFrames (.throwing q :: below)).heap[q]? = some ce := by
    show T.heap[q]? = some ce
    rw [hT]; exact hcell
  exact ⟨_, st1, .threw q, hrun, hend, Or.inr ⟨q, rfl, E, ce, locs, hx _ hT hW.alike, hcell9, hv, hcl, hW, hsm.mono hc hs, hf⟩⟩
theorem vx_frame {U : State} {k n : Nat} (h : s.sameButNew ({ U with vm := s.vm } : State) locs k n) : s.heap.size ≤ U.heap.size ∧ ∀ q : Nat, q < s.heap.size → (∀ z ∈ locs, z.base ≠ q) → U.heap[q]? = s.heap[q]? := by
  obtain ⟨-, h2, -, -, -, h6⟩ := h
  refine ⟨h2, fun q hq hz => ?_⟩
  obtain ⟨c9, e1, e2, e3, e4⟩ := h6 q _ (Array.getElem?_eq_getElem hq)
  have hs : c9.slots = (s.heap[q]).slots := Array.ext_getElem? fun i => e4 i fun hm => hz _ hm rfl
  have h9 : c9 = s.heap[q] := by
    rw [hs] at e2
    exact e2
  have e5 : U.heap[q]? = some c9 := e1
  rw [e5, h9, Array.getElem?_eq_getElem hq]
/-- the words of a throw but the four that speak of the heap -/
def vx_no (w : Cond) : Bool := decide (w ≠ .isRef (.static Bundle.tN "UNASSIGNED_STACK" Bundle.steD)) && decide (w ≠ .isRef (.static Bundle.tN "SUPPRESSED_SENTINEL" Bundle.listD)) && decide (w ≠ .laysStatic Bundle.tN "UNASSIGNED_STACK" Bundle.steD) && decide (w ≠ .laysStatic Bundle.tN "SUPPRESSED_SENTINEL" Bundle.listD)
def vx_at0 (own : String) (ic : Nat) (X : String) (names : List String) : List Cond := (Bundle.ownAtoms0 own ic X names).filter vx_no
def vx_atS (own : String) (ic : Nat) (X : String) (names : List String) : List Cond := (Bundle.ownAtoms own ic X names).filter vx_no
/-- a word that the tables alone decide, or a good one -/
def vx_ot (w : Cond) : Bool := w.onTables || goodWord w
theorem vx_ot_at {args a' : Array Value} {s U : State} {w : Cond} (hW : s.WarmedH U.vm) (hvm : s.vm = U.vm) (hg : vx_ot w = true) (h : w.before args s = true) : w.before a' U = true := by
  simp only [vx_ot, Bool.or_eq_true] at hg
  rcases hg with hg | hg
  · exact va_tabs hg hvm h
  · exact word_at hW (good_of_word hg) h
/-- a list's words: the good ones out of the method's own list, the others by premises of their own -/
theorem vx_hat {args : Array Value} {s : State} {L B : List Cond} (h1 : ∀ w ∈ L.filter goodWord, w.before args s = true) (h2 : ∀ w ∈ L.filter (fun w => !goodWord w), w ∈ B) (h3 : ∀ w ∈ B, w.before args s = true) : ∀ w ∈ L, w.before args s = true := by
  intro w hw
  by_cases g : goodWord w = true
  · exact h1 w (List.mem_filter.mpr ⟨hw, g⟩)
  · refine h3 w (h2 w (List.mem_filter.mpr ⟨hw, ?_⟩))
    show (!goodWord w) = true
    cases hgw : goodWord w
    · rfl
    · exact absurd hgw g
theorem vx_c {args : Array Value} {s : State} {w : Cond} {B : List Cond} (h : w.before args s = true) (t : ∀ w ∈ B, w.before args s = true) : ∀ w' ∈ w :: B, w'.before args s = true := fun w' h' => (List.mem_cons.mp h').elim (fun e => by rw [e]; exact h) (t w')
theorem vx_n {args : Array Value} {s : State} : ∀ w ∈ ([] : List Cond), w.before args s = true := fun _ h => nomatch h
theorem vx_own {args : Array Value} {s : State} {L : List Cond} (h1 : ∀ w ∈ L.filter vx_no, w.before args s = true)
    (hU : (Cond.isRef (.static Bundle.tN "UNASSIGNED_STACK" Bundle.steD)).before args s = true) (hN : (Cond.isRef (.static Bundle.tN "SUPPRESSED_SENTINEL" Bundle.listD)).before args s = true)
    (lU : (Cond.laysStatic Bundle.tN "UNASSIGNED_STACK" Bundle.steD).before args s = true) (lN : (Cond.laysStatic Bundle.tN "SUPPRESSED_SENTINEL" Bundle.listD).before args s = true) : ∀ w ∈ L, w.before args s = true := by
  intro w hw
  by_cases e1 : w = .isRef (.static Bundle.tN "UNASSIGNED_STACK" Bundle.steD)
  · rw [e1]; exact hU
  · by_cases e2 : w = .isRef (.static Bundle.tN "SUPPRESSED_SENTINEL" Bundle.listD)
    · rw [e2]; exact hN
    · by_cases e3 : w = .laysStatic Bundle.tN "UNASSIGNED_STACK" Bundle.steD
      · rw [e3]; exact lU
      · by_cases e4 : w = .laysStatic Bundle.tN "SUPPRESSED_SENTINEL" Bundle.listD
        · rw [e4]; exact lN
        · exact h1 w (List.mem_filter.mpr ⟨hw, by unfold vx_no; rw [decide_eq_true e1, decide_eq_true e2, decide_eq_true e3, decide_eq_true e4]; rfl⟩)
/-- where a static field lies, its class's statics cell in H -/
def vx_L (C n d : String) (A : Nat → Prop) (U : State) (H : Heap) : Prop := ∃ (c : ClassId) (k : Class) (i : Nat) (f : Field) (a : Nat) (cell : Cell), U.vm.findClass C = some c ∧ U.fieldFound? C n d = some (c, k, i, f) ∧ f.isStatic = true ∧ k.statics = some a ∧ H[a]? = some cell ∧ cell.vm.isStatics = true ∧ cell.cls = c ∧ f.slot < cell.slots.size ∧ k.staticTypes[f.slot]? = some f.type ∧ ¬ A a
theorem vx_L.moved {C n d : String} {A : Nat → Prop} {u U : State} {H : Heap} (hvm : u.vm.Alike U.vm) (h : vx_L C n d A u H) : vx_L C n d A U H := by
  obtain ⟨c, k, i, f, a, cell, h1, h2, h3, h4, h5, h6, h7, h8, h9, h10⟩ := h
  obtain ⟨k', hi', he⟩ := State.fieldFound?_setVm hvm h2
  exact ⟨c, k', i, f, a, cell, by rw [hvm.findClass]; exact h1, hi', h3, by rw [he]; exact h4, h5, h6, h7, h8, by rw [he]; exact h9, h10⟩
theorem vx_L.kept {C n d : String} {A : Nat → Prop} {U : State} {H H1 : Heap} (h : vx_L C n d A U H) (hq : ∀ a : Nat, a < H.size → ¬ A a → H1[a]? = H[a]?) : vx_L C n d A U H1 := by
  obtain ⟨c, k, i, f, a, cell, h1, h2, h3, h4, h5, h6, h7, h8, h9, h10⟩ := h
  exact ⟨c, k, i, f, a, cell, h1, h2, h3, h4, by rw [hq a (Array.getElem?_eq_some_iff.mp h5).1 h10]; exact h5, h6, h7, h8, h9, h10⟩
theorem vx_L.narrow {C n d : String} {A B : Nat → Prop} {U : State} {H : Heap} (h : vx_L C n d A U H) (hAB : ∀ q, B q → A q) : vx_L C n d B U H := by
  obtain ⟨c, k, i, f, a, cell, h1, h2, h3, h4, h5, h6, h7, h8, h9, h10⟩ := h
  exact ⟨c, k, i, f, a, cell, h1, h2, h3, h4, h5, h6, h7, h8, h9, fun z => h10 (hAB _ z)⟩
theorem vx_L.word {C n d : String} {A : Nat → Prop} {s : State} {args : Array Value} (h : vx_L C n d A s s.heap) : (Cond.laysStatic C n d).before args s = true := by
  obtain ⟨c, k, i, f, a, cell, h1, h2, h3, h4, h5, h6, h7, h8, h9, -⟩ := h
  show (Cond.laysStatic C n d).holds args s none s [] = true
  exact Cond.laysStatic_of h1 h2 h3 h4 h5 h6 h7 h8 h9
/-- .. and what it holds: null or some reference -/
def vx_Zq (C n d : String) (A : Nat → Prop) (U : State) (H : Heap) : Prop := va_Zq C n d A U H ∧ vx_L C n d A U H
theorem vx_Zq.moved {C n d : String} {A : Nat → Prop} {u U : State} {H : Heap} (hvm : u.vm.Alike U.vm) (h : vx_Zq C n d A u H) : vx_Zq C n d A U H := ⟨va_Zq.moved hvm h.1, vx_L.moved hvm h.2⟩
theorem vx_Zq.kept {C n d : String} {A : Nat → Prop} {U : State} {H H1 : Heap} (h : vx_Zq C n d A U H) (hq : ∀ a : Nat, a < H.size → ¬ A a → H1[a]? = H[a]?) : vx_Zq C n d A U H1 := ⟨va_Zq.kept h.1 hq, vx_L.kept h.2 hq⟩
theorem vx_Zq.narrow {C n d : String} {A B : Nat → Prop} {U : State} {H : Heap} (h : vx_Zq C n d A U H) (hAB : ∀ q, B q → A q) : vx_Zq C n d B U H := ⟨va_Zq.narrow h.1 hAB, vx_L.narrow h.2 hAB⟩
theorem vx_Zqof {args : Array Value} {s : State} {C n d : String} {A : Nat → Prop} (hl : (Cond.laysStatic C n d).before args s = true) (hini : (Cond.initialized C).before args s = true) (h : (Cond.isRef (.static C n d)).before args s = true) (hA : ∀ a : Nat, a < s.heap.size → ¬ A a) : vx_Zq C n d A s s.heap := by
  refine ⟨va_Zqof hl hini h hA, ?_⟩
  obtain ⟨c, k, i, f, a, cell, h1, h2, h3, h4, h5, h6, h7, h8, h9⟩ := Cond.laysStatic_spec hl
  exact ⟨c, k, i, f, a, cell, h1, h2, h3, h4, h5, h6, h7, h8, h9, hA a (Array.getElem?_eq_some_iff.mp h5).1⟩
theorem vx_isRef {C n d : String} {v : Value} {A : Nat → Prop} {s : State} {args : Array Value} (h : va_Z C n d v A s s.heap) (hv : v.isRef = true) : (Cond.isRef (.static C n d)).before args s = true := by
  obtain ⟨cf, kf, fi, f, a, cell, h1, h2, h3, h4, h5, h6, h7, -⟩ := h
  have he : (Term.static C n d).eval args s none [] s = some v := by
    simp [Term.eval, State.fieldNamed?, h1, h2, h4, h5, h6, h7]
  simp only [Cond.before, Cond.holds, Cond.value, he]
  cases v <;> simp_all [Value.isRef]
theorem vx_isRefq {C n d : String} {A : Nat → Prop} {s : State} {args : Array Value} (h : va_Zq C n d A s s.heap) : (Cond.isRef (.static C n d)).before args s = true := by
  rcases h with h | ⟨t, h⟩
  · exact vx_isRef h rfl
  · exact vx_isRef h rfl
/-- the same frame, seen from here: as if the method were called anew in this heap -/
theorem vx_rebase {T : State} (X : Stand p l e R s m args below meth c T locs cells slots) {R' : Room} (hf : R'.frames ≤ R.frames) (hl : R'.locals ≤ R.locals) (hc : cells + R'.cells ≤ R.cells) (hs : slots + R'.slots ≤ R.slots) :
    Stand p l e R' ((T.setVm s.vm).setFrames (.invoking m args :: below)) m args below meth c T [] 0 0 := by
  have htop : (T.setVm s.vm).topJava?.isSome := X.here.top
  have hF : ((T.setVm s.vm).setFrames (.invoking m args :: below)).frames = .invoking m args :: below := State.frames_setFrames _ (State.cur_lt_of_top htop)
  obtain ⟨g₀, hg0⟩ := Option.isSome_iff_exists.mp htop
  obtain ⟨r, hr⟩ := State.topJava?_eq_some.mp hg0
  have hl9 : e.platform.stackLimits (T.setVm s.vm).me = e.platform.stackLimits s.me := X.limits
  have hb9 : (T.setVm s.vm).me.stackBytes = s.me.stackBytes := X.bytes
  refine ⟨X.admits, X.cas, X.clock, hF, ?_, X.hears, X.method, X.code, X.here, X.tail, X.warmed, ?_, ?_, ?_⟩
  · have h := X.room
    have hU : ((T.setVm s.vm).setFrames (.invoking m args :: below)).localsInUse = s.localsInUse := by
      rw [State.localsInUse_invoking hF (meth := meth) (c := c) X.method X.code, State.localsInUse_invoking X.frames X.method X.code]
    simp only [State.hasRoom, Bool.and_eq_true, decide_eq_true_eq] at h ⊢
    obtain ⟨⟨⟨⟨h1, h2, h3, h4, h5, h6⟩, h7⟩, h8⟩, h9⟩ := h
    rw [X.frames, List.length_cons] at h2 h3
    have q1 := X.heapSize
    have q2 := X.used
    simp only [hF, hU, List.length_cons, State.stackLimits_setFrames, State.stackBytes_setFrames, hl9, hb9]
    refine ⟨⟨⟨⟨by omega, by omega, by omega, by omega, by omega, h6⟩, ?_⟩, ?_⟩, X.book⟩
    · show T.heap.size + R'.cells ≤ e.platform.maxCells
      omega
    · show T.slotsUsed + R'.slots ≤ e.platform.maxSlots
      omega
  · rw [State.stackLimits_setFrames]; rfl
  · rw [State.stackBytes_setFrames]; rfl
  · refine ⟨?_, Nat.le_refl _, Nat.le_refl _, ?_, ?_, fun a c9 h9 => ⟨c9, h9, rfl, rfl, fun _ _ => rfl⟩⟩
    · obtain ⟨t, ht, -⟩ := State.frames_cons hr
      show T.setVm s.vm = { ((T.setVm s.vm).setFrames (.invoking m args :: below)).setFrames (T.setVm s.vm).frames with heap := T.heap, slotsUsed := T.slotsUsed }
      rw [State.setFrames_setFrames, State.setFrames_self ht]
      rfl
    · show T.slotsUsed = T.slotsUsed + ((T.heap.toList.drop T.heap.size).map (·.slots.size)).sum
      rw [List.drop_eq_nil_of_le (Nat.le_of_eq Array.length_toList)]
      rfl
    · show ((T.heap.toList.drop T.heap.size).map (·.slots.size)).sum ≤ 0
      rw [List.drop_eq_nil_of_le (Nat.le_of_eq Array.length_toList)]
      exact Nat.le_refl _
/-- 'throw new E()': new; dup; invokespecial; athrow -/
theorem vx_throw0 {cc : ByteArray} {pc : Nat} (hexec : p.tables.exec = Jvm.exec) (hb : c.code = cc) (hl : l.stackTraces = false) {own cls : String} {names : List String} {ik ic mc ms : Nat} {A : Nat → Prop}
    (hown : s.vm.findClass own = some m.cls) (hcls : Bundle.fit cls = true) (hnames : ∀ n ∈ names, Bundle.fit n = true)
    (hk : (Cond.classLink own ik cls).before args s = true) (hini : (Cond.initialized cls).before args s = true) (hat : ∀ w ∈ vx_at0 own ic cls names, w.before args s = true)
    (hgood : ∀ w ∈ Cond.classLink own ik cls :: Cond.initialized cls :: vx_at0 own ic cls names, vx_ot w = true)
    (hU : vx_Zq Bundle.tN "UNASSIGNED_STACK" Bundle.steD A s s.heap) (hN : vx_Zq Bundle.tN "SUPPRESSED_SENTINEL" Bundle.listD A s s.heap) (hS : va_S A s.heap H locs) (hsize : ls.size = c.maxLocals)
    (d0 : decode cc pc = .ok (.new ik, 3)) (d3 : decode cc (pc + 3) = .ok (.dup, 1)) (d4 : decode cc (pc + 4) = .ok (.invokespecial ic, 3)) (d7 : decode cc (pc + 7) = .ok (.athrow, 1))
    (hout : ∀ x ∈ c.exceptionTable.toList, covers x (pc + 7) = false)
    (hRframes : names.length + 3 < R.frames) (hRlocals : (rest.map fun v => v.category).sum + (13 * (names.length + 1) + 42) ≤ R.locals) (hRcells : cells + 1 ≤ R.cells) (hRslots : slots + 6 ≤ R.slots) (hlocks : meth.locks = false)
    (hx : ∀ t : State, s.vm.Alike t.vm → H.size ≤ t.heap.size → (∀ q : Nat, q < H.size → t.heap[q]? = H[q]?) → XC cls s t)
    (hf : ∀ z ∈ locs, free z.base) (hc : cells + 1 ≤ mc) (hs : slots + 6 ≤ ms) :
    W p l e R s m args below meth c H locs cells slots (vx_MQ below Qc XC args s mc ms free) (F0 m pc ls rest) := by
  intro T hT X
  have htr : e.platform.stackTraces = false := (show e.platform.stackTraces = l.stackTraces by rw [X.admits.platform]).trans hl
  have Y := vx_rebase X (R' := { frames := R.frames, locals := R.locals, cells := 1, slots := 6 }) (Nat.le_refl _) (Nat.le_refl _) hRcells hRslots
  obtain ⟨s', hA⟩ : ∃ z, z = (T.setVm s.vm).setFrames (.invoking m args :: below) := ⟨_, rfl⟩
  rw [← hA] at Y
  have hvm : s'.vm = s.vm := by rw [hA]; rfl
  have hhp : s'.heap = H := by rw [hA]; exact hT
  have hW0 : s.WarmedH s'.vm := by rw [hvm]; exact State.WarmedH.refl s
  have hat' : ∀ w ∈ vx_at0 own ic cls names, w.before args s' = true := fun w hw => vx_ot_at hW0 hvm.symm (hgood w (List.mem_cons_of_mem _ (List.mem_cons_of_mem _ hw))) (hat w hw)
  have hk' : (Cond.classLink own ik cls).before args s' = true := vx_ot_at hW0 hvm.symm (hgood _ List.mem_cons_self) hk
  have hini' : (Cond.initialized cls).before args s' = true := vx_ot_at hW0 hvm.symm (hgood _ (List.mem_cons_of_mem _ List.mem_cons_self)) hini
  have hU' : vx_Zq Bundle.tN "UNASSIGNED_STACK" Bundle.steD A s' s'.heap := by rw [hhp]; exact vx_Zq.moved hW0.alike (hU.kept hS.2.1)
  have hN' : vx_Zq Bundle.tN "SUPPRESSED_SENTINEL" Bundle.listD A s' s'.heap := by rw [hhp]; exact vx_Zq.moved hW0.alike (hN.kept hS.2.1)
  have h : ∀ w ∈ Bundle.ownAtoms0 own ic cls names, w.before args s' = true := vx_own hat' (vx_isRefq hU'.1) (vx_isRefq hN'.1) hU'.2.word hN'.2.word
  have hown' : s'.vm.findClass own = some m.cls := by rw [hvm]; exact hown
  have hins : (Cond.instantiable cls 6).before args s' = true := h _ (by simp [Bundle.ownAtoms0])
  obtain ⟨vm₁, cX, kX, hfX, hkX, -, -, X₁, st1⟩ := Y.newCold hexec (own := own) (C := cls) (index := ik) (n := 6) hown' hk' hins hini'
    (g := F0 m pc ls rest) rfl (by rw [hb]; exact d0) (Nat.le_refl _) (Nat.le_refl _)
  generalize hT1 : (T.setVm vm₁).pushCell { cls := cX, slots := kX.instanceTypes.map defaultValue, vm := .none } = T1 at X₁ st1
  have hcat : (Value.ref T.heap.size).category = 1 := rfl
  have hcellA : T1.heap[T.heap.size]? = some (freshCell cX kX) := by rw [← hT1]; exact State.heap_pushCell_size _ _
  have d3' : decode c.code (pc + 3) = .ok (.dup, 1) := by rw [hb]; exact d3
  obtain ⟨U, hsteps, hrun, hend, hW, hsame, ce, hce, hO⟩ := X₁.ctorThrow0 hexec htr (own := own) (cls := cls) (names := names) (ic := ic) hown' hcls hnames h (fun x hx => nomatch hx) hfX hkX hcellA (by rw [hhp, hT]; exact Nat.le_refl _)
    (g := { method := m, pc := pc + 4, locals := ls, stack := .ref T.heap.size :: .ref T.heap.size :: rest, locked := none }) rfl hsize rfl rfl (rest := rest) rfl
    (by rw [hb]; exact d4) (by rw [hb]; exact d7) hout hRframes (by simp only [List.map_cons, List.sum_cons, hcat]; omega) hlocks
  obtain ⟨f1, f2⟩ := vx_frame hsame
  rw [hhp] at f1 f2
  have hWs : s.WarmedH U.vm := State.WarmedH.trans hW0 hW
  have hcl : s.vm.findClass cls = some ce.cls := by
    have h9 := hO.cls
    rw [hvm] at h9
    exact h9
  have hall : s.sameButNew ({ U with vm := s.vm } : State) locs mc ms := by
    subst hA
    obtain ⟨e1, e2⟩ := hsame
    rw [State.setFrames_setFrames] at e1
    have h2 : (T.setVm s.vm).sameButNew ({ U with vm := s.vm } : State) [] (0 + 1) (0 + 6) := ⟨e1, e2⟩
    have h3 := X.same.trans h2
    rw [List.append_nil] at h3
    exact h3.mono hc hs
  refine ⟨U, ?_, .threw T.heap.size, hrun, hend, Or.inr ⟨T.heap.size, rfl, cls, ce, locs, hx U hWs.alike f1 (fun q hq => f2 q hq (fun z hz => nomatch hz)), hce, hO.vm, hcl, hWs, hall, hf⟩⟩
  refine st1 _ ?_
  show Steps p.tables e below (T1.setTop { method := m, pc := pc + 3, locals := ls, stack := .ref T.heap.size :: rest, locked := none }) _
  jvm_step X₁.here [X₁.here.top, hexec, d3', Value.category]
  exact hsteps
/-- 'throw new E("text")': new; dup; ldc; invokespecial; athrow -/
theorem vx_throwS {cc : ByteArray} {pc : Nat} (hexec : p.tables.exec = Jvm.exec) (hb : c.code = cc) (hl : l.stackTraces = false) {own cls text : String} {names : List String} {ik is ic mc ms sa : Nat} {A : Nat → Prop}
    (hown : s.vm.findClass own = some m.cls) (hcls : Bundle.fit cls = true) (hnames : ∀ n ∈ names, Bundle.fit n = true)
    (hk : (Cond.classLink own ik cls).before args s = true) (hini : (Cond.initialized cls).before args s = true) (hstr : vk_R own is text sa s) (hat : ∀ w ∈ vx_atS own ic cls names, w.before args s = true)
    (hgood : ∀ w ∈ Cond.classLink own ik cls :: Cond.initialized cls :: vx_atS own ic cls names, vx_ot w = true)
    (hU : vx_Zq Bundle.tN "UNASSIGNED_STACK" Bundle.steD A s s.heap) (hN : vx_Zq Bundle.tN "SUPPRESSED_SENTINEL" Bundle.listD A s s.heap) (hS : va_S A s.heap H locs) (hsize : ls.size = c.maxLocals)
    (d0 : decode cc pc = .ok (.new ik, 3)) (d3 : decode cc (pc + 3) = .ok (.dup, 1)) (d4 : decode cc (pc + 4) = .ok (.ldc is, 2)) (d6 : decode cc (pc + 6) = .ok (.invokespecial ic, 3)) (d9 : decode cc (pc + 9) = .ok (.athrow, 1))
    (hout : ∀ x ∈ c.exceptionTable.toList, covers x (pc + 9) = false)
    (hRframes : names.length + 3 < R.frames) (hRlocals : (rest.map fun v => v.category).sum + (13 * (names.length + 1) + 43) ≤ R.locals) (hRcells : cells + 1 ≤ R.cells) (hRslots : slots + 6 ≤ R.slots) (hlocks : meth.locks = false)
    (hx : ∀ t : State, s.vm.Alike t.vm → H.size ≤ t.heap.size → (∀ q : Nat, q < H.size → t.heap[q]? = H[q]?) → XC cls s t)
    (hf : ∀ z ∈ locs, free z.base) (hc : cells + 1 ≤ mc) (hs : slots + 6 ≤ ms) :
    W p l e R s m args below meth c H locs cells slots (vx_MQ below Qc XC args s mc ms free) (F0 m pc ls rest) := by
  intro T hT X
  have htr : e.platform.stackTraces = false := (show e.platform.stackTraces = l.stackTraces by rw [X.admits.platform]).trans hl
  have Y := vx_rebase X (R' := { frames := R.frames, locals := R.locals, cells := 1, slots := 6 }) (Nat.le_refl _) (Nat.le_refl _) hRcells hRslots
  obtain ⟨s', hA⟩ : ∃ z, z = (T.setVm s.vm).setFrames (.invoking m args :: below) := ⟨_, rfl⟩
  rw [← hA] at Y
  have hvm : s'.vm = s.vm := by rw [hA]; rfl
  have hhp : s'.heap = H := by rw [hA]; exact hT
  have hW0 : s.WarmedH s'.vm := by rw [hvm]; exact State.WarmedH.refl s
  have hat' : ∀ w ∈ vx_atS own ic cls names, w.before args s' = true := fun w hw => vx_ot_at hW0 hvm.symm (hgood w (List.mem_cons_of_mem _ (List.mem_cons_of_mem _ hw))) (hat w hw)
  have hk' : (Cond.classLink own ik cls).before args s' = true := vx_ot_at hW0 hvm.symm (hgood _ List.mem_cons_self) hk
  have hini' : (Cond.initialized cls).before args s' = true := vx_ot_at hW0 hvm.symm (hgood _ (List.mem_cons_of_mem _ List.mem_cons_self)) hini
  have hU' : vx_Zq Bundle.tN "UNASSIGNED_STACK" Bundle.steD A s' s'.heap := by rw [hhp]; exact vx_Zq.moved hW0.alike (hU.kept hS.2.1)
  have hN' : vx_Zq Bundle.tN "SUPPRESSED_SENTINEL" Bundle.listD A s' s'.heap := by rw [hhp]; exact vx_Zq.moved hW0.alike (hN.kept hS.2.1)
  have h : ∀ w ∈ Bundle.ownAtoms own ic cls names, w.before args s' = true := vx_own hat' (vx_isRefq hU'.1) (vx_isRefq hN'.1) hU'.2.word hN'.2.word
  have hown' : s'.vm.findClass own = some m.cls := by rw [hvm]; exact hown
  have hins : (Cond.instantiable cls 6).before args s' = true := h _ (by simp [Bundle.ownAtoms])
  obtain ⟨vm₁, cX, kX, hfX, hkX, -, -, X₁, st1⟩ := Y.newCold hexec (own := own) (C := cls) (index := ik) (n := 6) hown' hk' hins hini'
    (g := F0 m pc ls rest) rfl (by rw [hb]; exact d0) (Nat.le_refl _) (Nat.le_refl _)
  generalize hT1 : (T.setVm vm₁).pushCell { cls := cX, slots := kX.instanceTypes.map defaultValue, vm := .none } = T1 at X₁ st1
  have hcat : (Value.ref T.heap.size).category = 1 := rfl
  have hcellA : T1.heap[T.heap.size]? = some (freshCell cX kX) := by rw [← hT1]; exact State.heap_pushCell_size _ _
  have d3' : decode c.code (pc + 3) = .ok (.dup, 1) := by rw [hb]; exact d3
  have d4' : decode c.code (pc + 4) = .ok (.ldc is, 2) := by rw [hb]; exact d4
  have hstr' : vk_R own is text sa s' := vk_R.warm hW0 hstr
  obtain ⟨U, hsteps, hrun, hend, hW, hsame, ce, hce, hO⟩ := X₁.ctorThrowS hexec htr (own := own) (cls := cls) (names := names) (ic := ic) hown' hcls hnames h (fun x hx => nomatch hx) hfX hkX hcellA (by rw [hhp, hT]; exact Nat.le_refl _) (msg := .ref sa) rfl
    (g := { method := m, pc := pc + 6, locals := ls, stack := .ref sa :: .ref T.heap.size :: .ref T.heap.size :: rest, locked := none }) rfl hsize rfl rfl (rest := rest) rfl
    (by rw [hb]; exact d6) (by rw [hb]; exact d9) hout hRframes (by simp only [List.map_cons, List.sum_cons, hcat]; omega) hlocks
  obtain ⟨f1, f2⟩ := vx_frame hsame
  rw [hhp] at f1 f2
  have hWs : s.WarmedH U.vm := State.WarmedH.trans hW0 hW
  have hcl : s.vm.findClass cls = some ce.cls := by
    have h9 := hO.cls
    rw [hvm] at h9
    exact h9
  have hall : s.sameButNew ({ U with vm := s.vm } : State) locs mc ms := by
    subst hA
    obtain ⟨e1, e2⟩ := hsame
    rw [State.setFrames_setFrames] at e1
    have h2 : (T.setVm s.vm).sameButNew ({ U with vm := s.vm } : State) [] (0 + 1) (0 + 6) := ⟨e1, e2⟩
    have h3 := X.same.trans h2
    rw [List.append_nil] at h3
    exact h3.mono hc hs
  refine ⟨U, ?_, .threw T.heap.size, hrun, hend, Or.inr ⟨T.heap.size, rfl, cls, ce, locs, hx U hWs.alike f1 (fun q hq => f2 q hq (fun z hz => nomatch hz)), hce, hO.vm, hcl, hWs, hall, hf⟩⟩
  refine st1 _ ?_
  show Steps p.tables e below (T1.setTop { method := m, pc := pc + 3, locals := ls, stack := .ref T.heap.size :: rest, locked := none }) _
  jvm_step X₁.here [X₁.here.top, hexec, d3', Value.category]
  exact X₁.ldcString hexec (own := own) (text := text) (index := is) (a := sa) hown' hstr'.1 hstr'.2
    (g := { method := m, pc := pc + 4, locals := ls, stack := .ref T.heap.size :: .ref T.heap.size :: rest, locked := none }) rfl d4' _ hsteps
/-- 'throw new E("text")', the text by a wide index -/
theorem vx_throwSW {cc : ByteArray} {pc : Nat} (hexec : p.tables.exec = Jvm.exec) (hb : c.code = cc) (hl : l.stackTraces = false) {own cls text : String} {names : List String} {ik is ic mc ms sa : Nat} {A : Nat → Prop}
    (hown : s.vm.findClass own = some m.cls) (hcls : Bundle.fit cls = true) (hnames : ∀ n ∈ names, Bundle.fit n = true)
    (hk : (Cond.classLink own ik cls).before args s = true) (hini : (Cond.initialized cls).before args s = true) (hstr : vk_R own is text sa s) (hat : ∀ w ∈ vx_atS own ic cls names, w.before args s = true)
    (hgood : ∀ w ∈ Cond.classLink own ik cls :: Cond.initialized cls :: vx_atS own ic cls names, vx_ot w = true)
    (hU : vx_Zq Bundle.tN "UNASSIGNED_STACK" Bundle.steD A s s.heap) (hN : vx_Zq Bundle.tN "SUPPRESSED_SENTINEL" Bundle.listD A s s.heap) (hS : va_S A s.heap H locs) (hsize : ls.size = c.maxLocals)
    (d0 : decode cc pc = .ok (.new ik, 3)) (d3 : decode cc (pc + 3) = .ok (.dup, 1)) (d4 : decode cc (pc + 4) = .ok (.ldc_w is, 3)) (d7 : decode cc (pc + 7) = .ok (.invokespecial ic, 3)) (d10 : decode cc (pc + 10) = .ok (.athrow, 1))
    (hout : ∀ x ∈ c.exceptionTable.toList, covers x (pc + 10) = false)
    (hRframes : names.length + 3 < R.frames) (hRlocals : (rest.map fun v => v.category).sum + (13 * (names.length + 1) + 43) ≤ R.locals) (hRcells : cells + 1 ≤ R.cells) (hRslots : slots + 6 ≤ R.slots) (hlocks : meth.locks = false)
    (hx : ∀ t : State, s.vm.Alike t.vm → H.size ≤ t.heap.size → (∀ q : Nat, q < H.size → t.heap[q]? = H[q]?) → XC cls s t)
    (hf : ∀ z ∈ locs, free z.base) (hc : cells + 1 ≤ mc) (hs : slots + 6 ≤ ms) :
    W p l e R s m args below meth c H locs cells slots (vx_MQ below Qc XC args s mc ms free) (F0 m pc ls rest) := by
  intro T hT X
  have htr : e.platform.stackTraces = false := (show e.platform.stackTraces = l.stackTraces by rw [X.admits.platform]).trans hl
  have Y := vx_rebase X (R' := { frames := R.frames, locals := R.locals, cells := 1, slots := 6 }) (Nat.le_refl _) (Nat.le_refl _) hRcells hRslots
  obtain ⟨s', hA⟩ : ∃ z, z = (T.setVm s.vm).setFrames (.invoking m args :: below) := ⟨_, rfl⟩
  rw [← hA] at Y
  have hvm : s'.vm = s.vm := by rw [hA]; rfl
  have hhp : s'.heap = H := by rw [hA]; exact hT
  have hW0 : s.WarmedH s'.vm := by rw [hvm]; exact State.WarmedH.refl s
  have hat' : ∀ w ∈ vx_atS own ic cls names, w.before args s' = true := fun w hw => vx_ot_at hW0 hvm.symm (hgood w (List.mem_cons_of_mem _ (List.mem_cons_of_mem _ hw))) (hat w hw)
  have hk' : (Cond.classLink own ik cls).before args s' = true := vx_ot_at hW0 hvm.symm (hgood _ List.mem_cons_self) hk
  have hini' : (Cond.initialized cls).before args s' = true := vx_ot_at hW0 hvm.symm (hgood _ (List.mem_cons_of_mem _ List.mem_cons_self)) hini
  have hU' : vx_Zq Bundle.tN "UNASSIGNED_STACK" Bundle.steD A s' s'.heap := by rw [hhp]; exact vx_Zq.moved hW0.alike (hU.kept hS.2.1)
  have hN' : vx_Zq Bundle.tN "SUPPRESSED_SENTINEL" Bundle.listD A s' s'.heap := by rw [hhp]; exact vx_Zq.moved hW0.alike (hN.kept hS.2.1)
  have h : ∀ w ∈ Bundle.ownAtoms own ic cls names, w.before args s' = true := vx_own hat' (vx_isRefq hU'.1) (vx_isRefq hN'.1) hU'.2.word hN'.2.word
  have hown' : s'.vm.findClass own = some m.cls := by rw [hvm]; exact hown
  have hins : (Cond.instantiable cls 6).before args s' = true := h _ (by simp [Bundle.ownAtoms])
  obtain ⟨vm₁, cX, kX, hfX, hkX, -, -, X₁, st1⟩ := Y.newCold hexec (own := own) (C := cls) (index := ik) (n := 6) hown' hk' hins hini'
    (g := F0 m pc ls rest) rfl (by rw [hb]; exact d0) (Nat.le_refl _) (Nat.le_refl _)
  generalize hT1 : (T.setVm vm₁).pushCell { cls := cX, slots := kX.instanceTypes.map defaultValue, vm := .none } = T1 at X₁ st1
  have hcat : (Value.ref T.heap.size).category = 1 := rfl
  have hcellA : T1.heap[T.heap.size]? = some (freshCell cX kX) := by rw [← hT1]; exact State.heap_pushCell_size _ _
  have d3' : decode c.code (pc + 3) = .ok (.dup, 1) := by rw [hb]; exact d3
  have d4' : decode c.code (pc + 4) = .ok (.ldc_w is, 3) := by rw [hb]; exact d4
  have hstr' : vk_R own is text sa s' := vk_R.warm hW0 hstr
  obtain ⟨U, hsteps, hrun, hend, hW, hsame, ce, hce, hO⟩ := X₁.ctorThrowS hexec htr (own := own) (cls := cls) (names := names) (ic := ic) hown' hcls hnames h (fun x hx => nomatch hx) hfX hkX hcellA (by rw [hhp, hT]; exact Nat.le_refl _) (msg := .ref sa) rfl
    (g := { method := m, pc := pc + 7, locals := ls, stack := .ref sa :: .ref T.heap.size :: .ref T.heap.size :: rest, locked := none }) rfl hsize rfl rfl (rest := rest) rfl
    (by rw [hb]; exact d7) (by rw [hb]; exact d10) hout hRframes (by simp only [List.map_cons, List.sum_cons, hcat]; omega) hlocks
  obtain ⟨f1, f2⟩ := vx_frame hsame
  rw [hhp] at f1 f2
  have hWs : s.WarmedH U.vm := State.WarmedH.trans hW0 hW
  have hcl : s.vm.findClass cls = some ce.cls := by
    have h9 := hO.cls
    rw [hvm] at h9
    exact h9
  have hall : s.sameButNew ({ U with vm := s.vm } : State) locs mc ms := by
    subst hA
    obtain ⟨e1, e2⟩ := hsame
    rw [State.setFrames_setFrames] at e1
    have h2 : (T.setVm s.vm).sameButNew ({ U with vm := s.vm } : State) [] (0 + 1) (0 + 6) := ⟨e1, e2⟩
    have h3 := X.same.trans h2
    rw [List.append_nil] at h3
    exact h3.mono hc hs
  refine ⟨U, ?_, .threw T.heap.size, hrun, hend, Or.inr ⟨T.heap.size, rfl, cls, ce, locs, hx U hWs.alike f1 (fun q hq => f2 q hq (fun z hz => nomatch hz)), hce, hO.vm, hcl, hWs, hall, hf⟩⟩
  refine st1 _ ?_
  show Steps p.tables e below (T1.setTop { method := m, pc := pc + 3, locals := ls, stack := .ref T.heap.size :: rest, locked := none }) _
  jvm_step X₁.here [X₁.here.top, hexec, d3', Value.category]
  exact X₁.ldcStringW hexec (own := own) (text := text) (index := is) (a := sa) hown' hstr'.1 hstr'.2
    (g := { method := m, pc := pc + 4, locals := ls, stack := .ref T.heap.size :: .ref T.heap.size :: rest, locked := none }) rfl d4' _ hsteps
end Ends
section Bodies
variable {l : Launch}
theorem vx_ofW {y : MethodName} {ws ws' : List Cond} {rm : Room} {Pc : Array Value → State → Prop} {Qc : Array Value → State → Outcome → State → Prop} {XC : String → State → State → Prop} {mc ms : Nat} {free : Addr → Prop} {cc : ByteArray} {maxL : Nat} {ret : Option FieldType}
    (hy : plainName y.cls = true) (hw : ws = Cond.code y cc maxL ret :: ws')
    (body : ∀ p e s m args below meth c s₁, BodyLoose p l y (headSpec ws rm) cc maxL ret e s m args below meth c s₁ → c.maxLocals = maxL → (∀ x ∈ c.exceptionTable.toList, False) → Pc args s →
      W p l e (headSpec ws rm).room s m args below meth c s.heap [] 0 0 (vx_MQ below Qc XC args s mc ms free) (entryFrame m args maxL)) : vx_Met l y ws rm Pc Qc XC mc ms free := by
  refine MetFree.of_bodyS (code := cc) (maxLocals := maxL) (ret := ret) hy ?_ ?_
  · intro args s m h hn
    obtain ⟨meth, c, h1, h2, h3, h4, h5, h6, -, -⟩ := Cond.code_spec hn (atoms_spec (ws := ws) h _ (by rw [hw]; exact List.mem_cons_self))
    exact ⟨meth, c, h1, h2, h3, h4, h5, h6⟩
  · intro p e s m args below meth c s₁ B hml hP _
    have hh0 : s₁.heap = s.heap := by rw [B.state]; rfl
    have ht : ∀ x ∈ c.exceptionTable.toList, False := by
      obtain ⟨meth9, c9, h1, h2, -, -, -, -, h7, -⟩ := Cond.code_spec B.named (atoms_spec (ws := ws) B.pre _ (by rw [hw]; exact List.mem_cons_self))
      cases Option.some.inj (h1.symm.trans B.method)
      cases Option.some.inj (h2.symm.trans (Stand.of_body B).code)
      intro x hx
      rw [Array.isEmpty_iff.mp h7] at hx
      cases hx
    obtain ⟨t, a1, o, b1, b2, b3⟩ := body p e s m args below meth c s₁ B hml ht hP s₁ hh0 (Stand.of_body B)
    exact ⟨t, o, a1, b1, b2, b3⟩
/-- the table of a body with handlers -/
theorem vx_table {p : Program} {x y : MethodName} {S : Spec} {cc bytes : ByteArray} {maxL maxL' : Nat} {ret ret' : Option FieldType} {e : Env} {s s₁ : State} {m : MethodId} {args : Array Value} {below : List Frame} {meth : Method} {c : Code} {hh : List (Nat × Nat × Nat × Nat)}
    (B : BodyLoose p l y S cc maxL ret e s m args below meth c s₁) (h : (Cond.codeWith y bytes maxL' ret' hh).before args s = true) : c.exceptionTable.toList = tableOf hh := by
  obtain ⟨m9, meth9, c9, hn9, h1, h2, -, -, h6, -⟩ := Cond.codeWith_spec h
  cases Option.some.inj (hn9.symm.trans B.named)
  cases Option.some.inj (h1.symm.trans B.method)
  cases Option.some.inj (h2.symm.trans (Stand.of_body B).code)
  rw [← h6, table_eq]
end Bodies
end VXA
/-! ===== END ===== -/
/-! ===== BEGIN a static call of a method with an exception table ===== -/
section VXS
variable {p : Program} {l : Launch} {e : Env} {R : Room} {s : State} {m : MethodId} {args : Array Value} {below : List Frame} {meth : Method} {c : Code} {T : State} {H : Heap} {locs : List Loc} {cells slots : Nat}
abbrev vx_CSW (R : Room) (s : State) (args : Array Value) (own : String) (index : Nat) (y : MethodName) (bytes : ByteArray) (maxL : Nat) (ret : Option FieldType) (hh : List (Nat × Nat × Nat × Nat)) (ws : List Cond) (rm : Room) (mc ms n : Nat) : Prop :=
  (rm.cells = mc ∧ rm.slots = ms ∧ rm.frames + 1 ≤ R.frames ∧ 8 + (maxL + 11) + rm.locals ≤ R.locals ∧ (∀ w ∈ ws, ∀ (a' : Array Value) (U : State), s.WarmedH U.vm → w.before a' U = true) ∧ Cond.codeWith y bytes maxL ret hh ∈ ws) ∧
  (Cond.codeWith y bytes maxL ret hh).before args s = true ∧ (Cond.initialized y.cls).before args s = true ∧ (y.cls ≠ "java/lang/invoke/MethodHandle" ∧ y.cls ≠ "java/lang/invoke/VarHandle") ∧
  (∀ sig, parseMethodDescriptor y.desc = some sig → n = sig.parameters.length) ∧ (Cond.methodLink own index y).before args s = true ∧ (Cond.static y).before args s = true
theorem vx_cwSW {own : String} {index maxL mc ms : Nat} {y : MethodName} {bytes : ByteArray} {ret : Option FieldType} {hh : List (Nat × Nat × Nat × Nat)} {Ts ws ws' : List Cond} {rm : Room} (n : Nat) (ht : ∀ w ∈ Ts, w.before args s = true) (hT : GoodIn Ts (va_wsS own index y ws)) (hw : ws = Cond.codeWith y bytes maxL ret hh :: ws') (hrc : rm.cells = mc) (hrs : rm.slots = ms)
    (hd : y.cls ≠ "java/lang/invoke/MethodHandle" ∧ y.cls ≠ "java/lang/invoke/VarHandle" ∧ (parseMethodDescriptor y.desc).map (fun d => d.parameters.length) = some n) (hR : rm.frames + 1 ≤ R.frames ∧ 8 + (maxL + 11) + rm.locals ≤ R.locals) :
    vx_CSW R s args own index y bytes maxL ret hh ws rm mc ms n := by
  have ok : ∀ w ∈ va_wsS own index y ws, w.before args s = true := fun w h => ht w (hT w h).1
  have hG : GoodIn Ts ws := fun w h => hT w (by unfold va_wsS; exact List.mem_append_right _ h)
  have hc : Cond.codeWith y bytes maxL ret hh ∈ ws := by rw [hw]; exact List.mem_cons_self
  refine ⟨⟨hrc, hrs, hR.1, hR.2, pay_in ht hG, hc⟩, ht _ (hG _ hc).1, ok _ (by simp [va_wsS]), ⟨hd.1, hd.2.1⟩, fun sig h => ?_, ok _ (by simp [va_wsS]), ok _ (by simp [va_wsS])⟩
  have h2 := hd.2.2
  rw [h] at h2
  exact (Option.some.inj h2).symm
theorem vx_callSW (X : Stand p l e R s m args below meth c T locs cells slots) (hexec : p.tables.exec = Jvm.exec) {own : String} {index : Nat} {y : MethodName} {bytes : ByteArray} {maxL : Nat} {ret : Option FieldType} {hh : List (Nat × Nat × Nat × Nat)}
    (hown : s.vm.findClass own = some m.cls) (hlink : (Cond.methodLink own index y).before args s = true) (hstat : (Cond.static y).before args s = true) (hinit : (Cond.initialized y.cls).before args s = true)
    (hcode : (Cond.codeWith y bytes maxL ret hh).before args s = true) (hy : y.cls ≠ "java/lang/invoke/MethodHandle" ∧ y.cls ≠ "java/lang/invoke/VarHandle")
    {W9 : Nat} {Pre : Pt → Array Value → Prop} {Post : Pt → Array Value → Option Value → Pt → Prop} (hK : Back l R p e below s args y 3 W9 Pre Post)
    {g : JFrame} (hg : g.method = m) (hsize : g.locals.size = c.maxLocals) {argsL rest : List Value} (hlen : ∀ sig, parseMethodDescriptor y.desc = some sig → argsL.length = sig.parameters.length)
    (hstack : g.stack = argsL.reverse ++ rest) (hW : 2 * g.monitorRoom + (rest.map fun v => v.category).sum ≤ W9) (hdg : decode c.code g.pc = .ok (.invokestatic index, 3))
    (hpre : ∀ vm₁, s.WarmedH vm₁ → Pre ⟨T.setVm vm₁, locs, cells, slots⟩ argsL.toArray) :
    ∃ (v : Option Value) (vm₁ : Vm) (B : Pt), s.WarmedH vm₁ ∧ Stand p l e R s m args below meth c B.U B.locs B.cells B.slots ∧ Post ⟨T.setVm vm₁, locs, cells, slots⟩ argsL.toArray v B ∧
      ∀ target, Steps p.tables e below (B.U.setTop { g with pc := g.pc + 3, stack := v.toList ++ rest }) target → Steps p.tables e below (T.setTop g) target := by
  obtain ⟨mk, methM, cM, hnamed, hmethM, -, -, -, -, -, -, hsigM⟩ := Cond.codeWith_spec hcode
  have hstatic : methM.isStatic = true := Cond.static_spec hnamed hmethM hstat
  obtain ⟨kP, hkP, -⟩ := className_of_methodNamed hnamed
  have hinitP : kP.init = .initialized := Cond.initialized_spec (findClass_of_methodNamed hnamed) hkP hinit
  obtain ⟨vm₁, X₁, hstep₁⟩ := X.invokestatic hexec hown hlink hnamed hmethM hstatic hkP hinitP hy (g := g) hg (argsL := argsL) (rest := rest) (hlen _ hsigM) hstack hdg
  obtain ⟨v, B, X', hpost, hsteps⟩ := hK m meth c ⟨T.setVm vm₁, locs, cells, slots⟩ { g with stack := rest } (.invokestatic index) mk argsL.toArray X₁ hg hsize hdg hW (X₁.named hnamed) (hpre vm₁ X₁.warmed)
  exact ⟨v, vm₁, B, X₁.warmed, X', hpost, fun target h => hstep₁ _ fun acts => by rw [doInvoke_state]; exact hsteps.trans h⟩
theorem vx_runSW {y : MethodName} {bytes cc : ByteArray} {maxL nL mc ms n index : Nat} {ret : Option FieldType} {hh : List (Nat × Nat × Nat × Nat)} {ws : List Cond} {rm : Room} {Pc : Array Value → State → Prop} {Qc : Array Value → State → Outcome → State → Prop} {free : Addr → Prop} {Ts : List Cond} {own : String} {As rest : List Value} {g : JFrame}
    (S : CallFix p m c cc nL s args Ts own) (hM : Met l y ws rm Pc Qc mc ms free) (cw : vx_CSW R s args own index y bytes maxL ret hh ws rm mc ms n) (hp : PreS s H Pc As)
    (hg : g.method = m) (hn : As.length = n) (hsize : g.locals.size = nL) (hstack : g.stack = As.reverse ++ rest) (hW : 2 * g.monitorRoom + (rest.map fun v => v.category).sum ≤ 8) (hdg : decode cc g.pc = .ok (.invokestatic index, 3)) (hf : cells + mc ≤ R.cells ∧ slots + ms ≤ R.slots) :
    va_Run p l e R s m args below meth c H locs cells slots mc ms g rest (Qc As.toArray) (free) := by
  obtain ⟨⟨hrc, hrs, hfr, hlo, hws, hcw⟩, hcode, hini, hy, hlen, hl, hstt⟩ := cw
  have hK : Back l R p e below s args y 3 8 (PreOf R mc ms Pc) (PostOf Qc mc ms free) := va_backW (hh := hh) (bytes := bytes) (maxL := maxL) (ret := ret) hM hp.1 hrc hrs hfr hlo hws hcw (fun a' U hW => word_at hW (Or.inl (by first | rfl | simp [Cond.onTables, Cond.keeps, Cond.steady])) hini)
  obtain ⟨hx, hb, hml, ho, -⟩ := S
  intro T hT X
  obtain ⟨v, vm₁, ⟨U', l2, c2, s2⟩, hW₁, X', ⟨g', mk, t, L, e1, e2, hq, h1, hL, h2, h3⟩, st⟩ := vx_callSW X hx (hh := hh) (bytes := bytes) (maxL := maxL) (ret := ret) ho hl hstt hini hcode hy hK hg (hsize.trans hml.symm) (argsL := As) (rest := rest) (fun sig h => hn.trans (hlen sig h)) hstack hW (by rw [hb]; exact hdg)
    (fun vm₁ hW₁ => ⟨hf.1, hf.2, hp.2 (T.setVm vm₁) hT hW₁⟩)
  dsimp only [Pt.U, Pt.locs, Pt.cells, Pt.slots] at X' e1 e2 h1 h2 h3 st
  subst h1; subst h2; subst h3
  exact ⟨v, (T.setVm vm₁).calling g' mk As.toArray, t, U', L, hT, X', hL, e1, e2, hq, st⟩
/-- not caught here, past rows that name other classes: it goes on to the caller -/
theorem vx_outP {p : Program} {l : Launch} {e : Env} {R : Room} {s : State} {m : MethodId} {args : Array Value} {below : List Frame} {meth : Method} {c : Code} {H : Heap} {locs : List Loc} {cells slots : Nat} {free : Addr → Prop} {ls : Array Slot} {rest : List Value} {Qc : Array Value → State → Outcome → State → Prop} {XC : String → State → State → Prop}
    {pc : Nat} {own E : String} {ce : Cell} {q : Addr} {mc ms : Nat} (hown : s.vm.findClass own = some m.cls) (hlocks : meth.locks = false)
    (hpass : ∀ z ∈ c.exceptionTable.toList, covers z pc = false ∨ (z.catchType ≠ 0 ∧ ∃ nm : String, (Cond.classLink own z.catchType nm).before args s = true ∧ va_Nc E nm s)) (hcell : H[q]? = some ce) (hv : ce.vm = .none) (hcl : s.vm.findClass E = some ce.cls)
    (hx : ∀ t : State, t.heap = H → s.vm.Alike t.vm → XC E s t) (hf : ∀ z ∈ locs, free z.base) (hc : cells ≤ mc) (hs : slots ≤ ms) :
    vx_W p l e R s m args below meth c H locs cells slots (vx_MQ below Qc XC args s mc ms free) (F0 m pc ls rest) q := by
  intro T hT X
  have hpl : e.platform.magicAccessors = ({} : Platform).magicAccessors := by rw [X.admits.platform]
  obtain ⟨vm', hW', X', st⟩ := X.outThrough hlocks q (g := F0 m pc ls rest) rfl rfl rfl (cell := ce) (by rw [hT]; exact hcell) (by rw [hv]; rfl)
    (by obtain ⟨k9, h9, -⟩ := Vm.findClass_spec hcl; exact ⟨k9, h9⟩) (fun z hz => by
      rcases hpass z hz with h | ⟨hz0, nm, hl1, hn1⟩
      · exact Or.inl h
      · obtain ⟨c6, hc6, hcl6⟩ := Cond.classLink_spec hown hl1 e.platform hpl
        obtain ⟨a8, b8, h1, h2, h3⟩ := hn1
        cases Option.some.inj (h1.symm.trans hcl)
        cases Option.some.inj (h2.symm.trans hc6)
        exact Or.inr ⟨hz0, _, hcl6, h3⟩)
  obtain ⟨g₀, hfr⟩ := X'.frames_eq
  have hcell9 : ((T.setVm vm').setFrames (.throwing q :: below)).heap[q]? = some ce := by
    show T.heap[q]? = some ce
    rw [hT]; exact hcell
  have hend : Ended ((T.setVm vm').setFrames (.throwing q :: below)) below (.threw q) := State.frames_setFrames _ (State.cur_lt_of_frames hfr)
  refine ⟨(T.setVm vm').setFrames (.throwing q :: below), ?_, .threw q, X'.here.running, hend, Or.inr ⟨q, rfl, E, ce, locs, hx _ hT (X'.ends _).1.alike, hcell9, hv, hcl, (X'.ends _).1, (X'.ends _).2.mono hc hs, hf⟩⟩
  rw [X.pushThrowing_eq]
  exact st
/-- a thing of a world lies in the heap -/
theorem vx_lt {D : va_G} {cl : List vw_C} {ws : va_W} {H1 : Heap} (h : va_P D cl ws H1) {k : Nat} {q : Nat × va_E} (hk : ws[k]? = some q) : q.1 < H1.size := (h k q hk).lt
end VXS
/-! ===== END ===== -/
/-! ===== BEGIN methods with a table of their own: called by a name, returning or throwing ===== -/
section VXH
/-! vx_backW, vx_callVX, vx_callSX, vx_callVW, vx_runVW, vx_runVX, vx_runSX, vx_ofWH follow the same proofs as their sisters above (Free/Laws.lean, Shelf42/LK1.lean); vx_outP calls Shelf42/NT130.lean (outThrough). -/
section
variable {l : Launch} {R : Room} {p : Program} {e : Env} {below : List Frame} {s : State} {sargs : Array Value} {y : MethodName} {len W9 : Nat}
theorem vx_backW {ws : List Cond} {rm : Room} {Pc : Array Value → State → Prop} {Qc : Array Value → State → Outcome → State → Prop} {XC : String → State → State → Prop} {mc ms : Nat} {free : Addr → Prop} {bytes : ByteArray} {maxL : Nat} {ret : Option FieldType} {hh : List (Nat × Nat × Nat × Nat)}
    (hM : vx_Met l y ws rm Pc Qc XC mc ms free) (hblind : FrameBlind Pc) (hrc : rm.cells = mc) (hrs : rm.slots = ms)
    (hframes : rm.frames + 1 ≤ R.frames) (hlocals : W9 + (maxL + 11) + rm.locals ≤ R.locals)
    (hws : ∀ w ∈ ws, ∀ a' U, s.WarmedH U.vm → w.before a' U = true) (hcode : Cond.codeWith y bytes maxL ret hh ∈ ws) (hinit : ∀ a' U, s.WarmedH U.vm → (Cond.initialized y.cls).before a' U = true) :
    vx_Back l R p e below s sargs y len W9 (PreOf R mc ms Pc) (PostOf Qc mc ms free) (vx_Post XC mc ms free) := by
  intro m meth c A g ig mk a X hg hsize hdg hW hn hp
  have h1 : (headSpec ws rm).pre.before a A.U = true := atoms_intro fun w hw => hws w hw _ _ X.warmed
  have h2 : (Cond.codeWith y bytes maxL ret hh).before a A.U = true := hws _ hcode _ _ X.warmed
  have h3 : (Cond.initialized y.cls).before a A.U = true := hinit _ _ X.warmed
  have h4 : A.cells + (headSpec ws rm).room.cells ≤ R.cells := by rw [show (headSpec ws rm).room.cells = mc from hrc]; exact hp.1
  have h5 : A.slots + (headSpec ws rm).room.slots ≤ R.slots := by rw [show (headSpec ws rm).room.slots = ms from hrs]; exact hp.2.1
  have hPc : Pc a (A.U.calling g mk a) := hblind _ _ _ _ hp.2.2
  obtain ⟨U, Ls, c0, s0⟩ := A
  dsimp only [Pt.U, Pt.locs, Pt.cells, Pt.slots] at h1 h2 h3 h4 h5 X hn hPc ⊢
  obtain ⟨m9, methY, cY, hn9, hmY, hcY, -, hlY, -⟩ := Cond.codeWith_spec h2
  cases Option.some.inj (hn9.symm.trans hn)
  obtain ⟨kY, hkY, -⟩ := className_of_methodNamed hn
  have hinitY : kY.init = .initialized := Cond.initialized_spec (findClass_of_methodNamed hn) hkY h3
  have h : At U g.method c below := by rw [hg]; exact X.here
  have hlocals9 : W9 + (maxL + 11) + (headSpec ws rm).room.locals ≤ R.locals := hlocals
  have happ : (headSpec ws rm).appliesLoose y e.platform (U.calling g mk a) = true :=
    Spec.appliesLoose_calling (g := g) h hdg hn hkY hinitY
      (X.room_calling (g := g) (R' := (headSpec ws rm).room) hsize hmY hcY hframes (by rw [hlY]; omega) h4 h5) h1
  obtain ⟨mid, hmid⟩ := h.above
  have hfr : (U.setTop g).frames = (.java g :: mid) ++ below := by rw [State.frames_setTop' g h.top, hmid]; rfl
  obtain ⟨o, s₂, hsteps, -, hend, hq⟩ := Steps.callFree hM p X.admits X.cas X.clock (acts := []) hfr happ hPc trivial
  have hq' : vx_Q Qc XC mc ms free a (U.calling g mk a) o s₂ := hq
  rw [State.frames_setTop' g h.top] at hend
  obtain ⟨g₀, hg0⟩ := Option.isSome_iff_exists.mp h.top
  obtain ⟨r, hr⟩ := State.topJava?_eq_some.mp hg0
  have hr' : (({ U with heap := s₂.heap, slotsUsed := s₂.slotsUsed } : State).setVm s₂.vm).frames = .java g₀ :: r := hr
  rcases hq' with ⟨hqc, L, hfe, hL⟩ | ⟨q, rfl, E, ce, L, hx, hce, hcv, hcl, hW₂, hsm, hL⟩
  · obtain ⟨⟨v, rfl⟩, hW₂, e2, q2, q3, q4, q5, q6⟩ := id hfe
    have e3 : s₂ = ({ (U.calling g mk a).setFrames s₂.frames with heap := s₂.heap, slotsUsed := s₂.slotsUsed } : State).setVm s₂.vm := by
      have : s₂ = ({ s₂ with vm := (U.calling g mk a).vm } : State).setVm s₂.vm := rfl
      rw [e2] at this
      exact this
    obtain ⟨c₂, i₂, len₂, hc₂, hd₂, hf₂⟩ := hend
    have hW' : U.WarmedH s₂.vm := hW₂
    have hcc : c₂ = c := by
      have h1 : s₂.code? g.method = U.code? g.method := by
        rw [State.code?_eq, State.code?_eq, hW'.alike.method?]
      exact Option.some.inj (hc₂.symm.trans (h1.trans h.code))
    subst hcc
    have hlen : len₂ = len := by rw [hdg] at hd₂; cases hd₂; rfl
    subst hlen
    have hs₂ : s₂ = (({ U with heap := s₂.heap, slotsUsed := s₂.slotsUsed } : State).setVm s₂.vm).setTop { g with pc := g.pc + len₂, stack := v.toList ++ g.stack } := by
      refine e3.trans ?_
      rw [hf₂, State.calling_eq h.top, State.setFrames_setFrames, State.setTop_of_frames _ hr', hr]
      rfl
    have hsame : U.sameButNew ({ U with heap := s₂.heap, slotsUsed := s₂.slotsUsed } : State) L mc ms := by
      refine ⟨?_, q2, q3, q4, q5, q6⟩
      obtain ⟨t, ht, -⟩ := State.frames_cons hr
      show ({ U with heap := s₂.heap, slotsUsed := s₂.slotsUsed } : State) = { U.setFrames U.frames with heap := s₂.heap, slotsUsed := s₂.slotsUsed }
      rw [State.setFrames_self ht]
    subst hg
    refine Or.inl ⟨v, ⟨(({ U with heap := s₂.heap, slotsUsed := s₂.slotsUsed } : State).setVm s₂.vm), Ls ++ L, c0 + mc, s0 + ms⟩,
      ⟨X.admits, X.cas, X.clock, X.frames, X.room, X.hears, X.method, X.code, (X.here.setHeapUsed s₂.heap s₂.slotsUsed).setVm hW'.alike, X.tail, State.WarmedH.trans X.warmed hW', X.limits, X.bytes, X.same.trans (hsame.setVm s.vm)⟩,
      ⟨g, mk, s₂, L, rfl, rfl, hqc, rfl, hL, rfl, rfl⟩, ?_⟩
    show Steps p.tables e below _ ((({ U with heap := s₂.heap, slotsUsed := s₂.slotsUsed } : State).setVm s₂.vm).setTop { g with pc := g.pc + len₂, stack := v.toList ++ g.stack })
    rw [← hs₂]
    exact hsteps
  · obtain ⟨e2, q2, q3, q4, q5, q6⟩ := id hsm
    have e3 : s₂ = ({ (U.calling g mk a).setFrames s₂.frames with heap := s₂.heap, slotsUsed := s₂.slotsUsed } : State).setVm s₂.vm := by
      have : s₂ = ({ s₂ with vm := (U.calling g mk a).vm } : State).setVm s₂.vm := rfl
      rw [e2] at this
      exact this
    have hf₂ : s₂.frames = .throwing q :: .java g :: U.frames.tail := hend
    have hW' : U.WarmedH s₂.vm := hW₂
    have hs₂ : s₂ = ((({ U with heap := s₂.heap, slotsUsed := s₂.slotsUsed } : State).setVm s₂.vm).setTop g).pushFrame (.throwing q) := by
      refine e3.trans ?_
      rw [hf₂, State.calling_eq h.top, State.setFrames_setFrames, State.pushFrame, State.frames_setTop _ hr', State.setTop_of_frames _ hr', State.setFrames_setFrames, hr]
      rfl
    have hsame : U.sameButNew ({ U with heap := s₂.heap, slotsUsed := s₂.slotsUsed } : State) L mc ms := by
      refine ⟨?_, q2, q3, q4, q5, q6⟩
      obtain ⟨t, ht, -⟩ := State.frames_cons hr
      show ({ U with heap := s₂.heap, slotsUsed := s₂.slotsUsed } : State) = { U.setFrames U.frames with heap := s₂.heap, slotsUsed := s₂.slotsUsed }
      rw [State.setFrames_self ht]
    subst hg
    refine Or.inr ⟨q, ⟨(({ U with heap := s₂.heap, slotsUsed := s₂.slotsUsed } : State).setVm s₂.vm), Ls ++ L, c0 + mc, s0 + ms⟩,
      ⟨X.admits, X.cas, X.clock, X.frames, X.room, X.hears, X.method, X.code, (X.here.setHeapUsed s₂.heap s₂.slotsUsed).setVm hW'.alike, X.tail, State.WarmedH.trans X.warmed hW', X.limits, X.bytes, X.same.trans (hsame.setVm s.vm)⟩,
      ⟨g, mk, s₂, L, E, ce, rfl, rfl, hx, hce, hcv, hcl, rfl, hL, rfl, rfl⟩, ?_⟩
    show Steps p.tables e below _ (((({ U with heap := s₂.heap, slotsUsed := s₂.slotsUsed } : State).setVm s₂.vm).setTop g).pushFrame (.throwing q))
    rw [← hs₂]
    exact hsteps
end
variable {p : Program} {l : Launch} {e : Env} {R : Room} {s : State} {m : MethodId} {args : Array Value} {below : List Frame} {meth : Method} {c : Code} {T : State} {H : Heap} {locs : List Loc} {cells slots : Nat}
theorem vx_callVX (X : Stand p l e R s m args below meth c T locs cells slots) (hexec : p.tables.exec = Jvm.exec) {own C : String} {index : Nat} {y : MethodName} {bytes : ByteArray} {maxL : Nat} {ret : Option FieldType} {hh : List (Nat × Nat × Nat × Nat)}
    (hown : s.vm.findClass own = some m.cls) (hlink : (Cond.methodLink own index y).before args s = true) (hinst : (Cond.instanceMethod y).before args s = true) (hsel : (Cond.selects C y y).before args s = true)
    (hcode : (Cond.codeWith y bytes maxL ret hh).before args s = true) (hy : y.cls ≠ "java/lang/invoke/MethodHandle" ∧ y.cls ≠ "java/lang/invoke/VarHandle")
    {W9 : Nat} {Pre : Pt → Array Value → Prop} {Post : Pt → Array Value → Option Value → Pt → Prop} {PostX : Pt → Array Value → Addr → Pt → Prop} (hK : vx_Back l R p e below s args y 3 W9 Pre Post PostX)
    {b : Addr} {cellB : Cell} (hcell : T.heap[b]? = some cellB) (hobj : cellB.vm.isStatics = false) (hcls : s.vm.findClass C = some cellB.cls)
    {g : JFrame} (hg : g.method = m) (hsize : g.locals.size = c.maxLocals) {argsL rest : List Value} (hlen : ∀ sig, parseMethodDescriptor y.desc = some sig → argsL.length = sig.parameters.length)
    (hstack : g.stack = argsL.reverse ++ .ref b :: rest) (hW : 2 * g.monitorRoom + (rest.map fun v => v.category).sum ≤ W9) (hdg : decode c.code g.pc = .ok (.invokevirtual index, 3))
    (hpre : ∀ vm₁, s.WarmedH vm₁ → Pre ⟨T.setVm vm₁, locs, cells, slots⟩ (Value.ref b :: argsL).toArray) :
    (∃ (v : Option Value) (vm₁ : Vm) (B : Pt), s.WarmedH vm₁ ∧ Stand p l e R s m args below meth c B.U B.locs B.cells B.slots ∧ Post ⟨T.setVm vm₁, locs, cells, slots⟩ (Value.ref b :: argsL).toArray v B ∧
      ∀ target, Steps p.tables e below (B.U.setTop { g with pc := g.pc + 3, stack := v.toList ++ rest }) target → Steps p.tables e below (T.setTop g) target) ∨
    (∃ (q : Addr) (vm₁ : Vm) (B : Pt), s.WarmedH vm₁ ∧ Stand p l e R s m args below meth c B.U B.locs B.cells B.slots ∧ PostX ⟨T.setVm vm₁, locs, cells, slots⟩ (Value.ref b :: argsL).toArray q B ∧
      Steps p.tables e below (T.setTop g) ((B.U.setTop { g with stack := rest }).pushFrame (.throwing q))) := by
  obtain ⟨mk, methM, hnamed, hmethM, hstM, habM⟩ := Cond.instanceMethod_spec hinst
  obtain ⟨m8, methM', cM, hn8, hmethM', -, -, -, -, -, -, hsigM⟩ := Cond.codeWith_spec hcode
  cases Option.some.inj (hn8.symm.trans hnamed)
  cases hmethM.symm.trans hmethM'
  obtain ⟨c2, r2, m2, q1, q2, q3, q4, kP, hkP, hkPi⟩ := Cond.selects_spec hsel
  cases hcls.symm.trans q1
  cases (State.methodFound?_of_named hnamed hy).symm.trans q2
  cases hnamed.symm.trans q3
  have hselP : selectMethod e.platform s.vm cellB.cls mk = .method mk := by rw [Launch.admits_selectMethod X.admits]; exact q4
  obtain ⟨vm₁, X₁, hstep₁⟩ := X.invokevirtual hexec hown hlink hnamed hmethM hstM hkP hkPi hy (a := b) (cell := cellB) hcell
    (fun z h => by rw [h] at hobj; cases hobj) hselP hmethM habM hkP hkPi (g := g) hg (argsL := argsL) (rest := rest) (hlen _ hsigM) hstack hdg
  rcases hK m meth c ⟨T.setVm vm₁, locs, cells, slots⟩ { g with stack := rest } (.invokevirtual index) mk (Value.ref b :: argsL).toArray X₁ hg hsize hdg hW (X₁.named hnamed) (hpre vm₁ X₁.warmed) with ⟨v, B, X', hpost, hsteps⟩ | ⟨q, B, X', hpost, hsteps⟩
  · exact Or.inl ⟨v, vm₁, B, X₁.warmed, X', hpost, fun target h => hstep₁ _ fun acts => by rw [doInvoke_state]; exact hsteps.trans h⟩
  · exact Or.inr ⟨q, vm₁, B, X₁.warmed, X', hpost, hstep₁ _ fun acts => by rw [doInvoke_state]; exact hsteps⟩
theorem vx_callSX (X : Stand p l e R s m args below meth c T locs cells slots) (hexec : p.tables.exec = Jvm.exec) {own : String} {index : Nat} {y : MethodName} {bytes : ByteArray} {maxL : Nat} {ret : Option FieldType} {hh : List (Nat × Nat × Nat × Nat)}
    (hown : s.vm.findClass own = some m.cls) (hlink : (Cond.methodLink own index y).before args s = true) (hstat : (Cond.static y).before args s = true) (hinit : (Cond.initialized y.cls).before args s = true)
    (hcode : (Cond.codeWith y bytes maxL ret hh).before args s = true) (hy : y.cls ≠ "java/lang/invoke/MethodHandle" ∧ y.cls ≠ "java/lang/invoke/VarHandle")
    {W9 : Nat} {Pre : Pt → Array Value → Prop} {Post : Pt → Array Value → Option Value → Pt → Prop} {PostX : Pt → Array Value → Addr → Pt → Prop} (hK : vx_Back l R p e below s args y 3 W9 Pre Post PostX)
    {g : JFrame} (hg : g.method = m) (hsize : g.locals.size = c.maxLocals) {argsL rest : List Value} (hlen : ∀ sig, parseMethodDescriptor y.desc = some sig → argsL.length = sig.parameters.length)
    (hstack : g.stack = argsL.reverse ++ rest) (hW : 2 * g.monitorRoom + (rest.map fun v => v.category).sum ≤ W9) (hdg : decode c.code g.pc = .ok (.invokestatic index, 3))
    (hpre : ∀ vm₁, s.WarmedH vm₁ → Pre ⟨T.setVm vm₁, locs, cells, slots⟩ argsL.toArray) :
    (∃ (v : Option Value) (vm₁ : Vm) (B : Pt), s.WarmedH vm₁ ∧ Stand p l e R s m args below meth c B.U B.locs B.cells B.slots ∧ Post ⟨T.setVm vm₁, locs, cells, slots⟩ argsL.toArray v B ∧
      ∀ target, Steps p.tables e below (B.U.setTop { g with pc := g.pc + 3, stack := v.toList ++ rest }) target → Steps p.tables e below (T.setTop g) target) ∨
    (∃ (q : Addr) (vm₁ : Vm) (B : Pt), s.WarmedH vm₁ ∧ Stand p l e R s m args below meth c B.U B.locs B.cells B.slots ∧ PostX ⟨T.setVm vm₁, locs, cells, slots⟩ argsL.toArray q B ∧
      Steps p.tables e below (T.setTop g) ((B.U.setTop { g with stack := rest }).pushFrame (.throwing q))) := by
  obtain ⟨mk, methM, cM, hnamed, hmethM, -, -, -, -, -, -, hsigM⟩ := Cond.codeWith_spec hcode
  have hstatic : methM.isStatic = true := Cond.static_spec hnamed hmethM hstat
  obtain ⟨kP, hkP, -⟩ := className_of_methodNamed hnamed
  have hinitP : kP.init = .initialized := Cond.initialized_spec (findClass_of_methodNamed hnamed) hkP hinit
  obtain ⟨vm₁, X₁, hstep₁⟩ := X.invokestatic hexec hown hlink hnamed hmethM hstatic hkP hinitP hy (g := g) hg (argsL := argsL) (rest := rest) (hlen _ hsigM) hstack hdg
  rcases hK m meth c ⟨T.setVm vm₁, locs, cells, slots⟩ { g with stack := rest } (.invokestatic index) mk argsL.toArray X₁ hg hsize hdg hW (X₁.named hnamed) (hpre vm₁ X₁.warmed) with ⟨v, B, X', hpost, hsteps⟩ | ⟨q, B, X', hpost, hsteps⟩
  · exact Or.inl ⟨v, vm₁, B, X₁.warmed, X', hpost, fun target h => hstep₁ _ fun acts => by rw [doInvoke_state]; exact hsteps.trans h⟩
  · exact Or.inr ⟨q, vm₁, B, X₁.warmed, X', hpost, hstep₁ _ fun acts => by rw [doInvoke_state]; exact hsteps⟩
theorem vx_callVW (X : Stand p l e R s m args below meth c T locs cells slots) (hexec : p.tables.exec = Jvm.exec) {own C : String} {index : Nat} {y : MethodName} {bytes : ByteArray} {maxL : Nat} {ret : Option FieldType} {hh : List (Nat × Nat × Nat × Nat)}
    (hown : s.vm.findClass own = some m.cls) (hlink : (Cond.methodLink own index y).before args s = true) (hinst : (Cond.instanceMethod y).before args s = true) (hsel : (Cond.selects C y y).before args s = true)
    (hcode : (Cond.codeWith y bytes maxL ret hh).before args s = true) (hy : y.cls ≠ "java/lang/invoke/MethodHandle" ∧ y.cls ≠ "java/lang/invoke/VarHandle")
    {W9 : Nat} {Pre : Pt → Array Value → Prop} {Post : Pt → Array Value → Option Value → Pt → Prop} (hK : Back l R p e below s args y 3 W9 Pre Post)
    {b : Addr} {cellB : Cell} (hcell : T.heap[b]? = some cellB) (hobj : cellB.vm.isStatics = false) (hcls : s.vm.findClass C = some cellB.cls)
    {g : JFrame} (hg : g.method = m) (hsize : g.locals.size = c.maxLocals) {argsL rest : List Value} (hlen : ∀ sig, parseMethodDescriptor y.desc = some sig → argsL.length = sig.parameters.length)
    (hstack : g.stack = argsL.reverse ++ .ref b :: rest) (hW : 2 * g.monitorRoom + (rest.map fun v => v.category).sum ≤ W9) (hdg : decode c.code g.pc = .ok (.invokevirtual index, 3))
    (hpre : ∀ vm₁, s.WarmedH vm₁ → Pre ⟨T.setVm vm₁, locs, cells, slots⟩ (Value.ref b :: argsL).toArray) :
    ∃ (v : Option Value) (vm₁ : Vm) (B : Pt), s.WarmedH vm₁ ∧ Stand p l e R s m args below meth c B.U B.locs B.cells B.slots ∧ Post ⟨T.setVm vm₁, locs, cells, slots⟩ (Value.ref b :: argsL).toArray v B ∧
      ∀ target, Steps p.tables e below (B.U.setTop { g with pc := g.pc + 3, stack := v.toList ++ rest }) target → Steps p.tables e below (T.setTop g) target := by
  obtain ⟨mk, methM, hnamed, hmethM, hstM, habM⟩ := Cond.instanceMethod_spec hinst
  obtain ⟨m8, methM', cM, hn8, hmethM', -, -, -, -, -, -, hsigM⟩ := Cond.codeWith_spec hcode
  cases Option.some.inj (hn8.symm.trans hnamed)
  cases hmethM.symm.trans hmethM'
  obtain ⟨c2, r2, m2, q1, q2, q3, q4, kP, hkP, hkPi⟩ := Cond.selects_spec hsel
  cases hcls.symm.trans q1
  cases (State.methodFound?_of_named hnamed hy).symm.trans q2
  cases hnamed.symm.trans q3
  have hselP : selectMethod e.platform s.vm cellB.cls mk = .method mk := by rw [Launch.admits_selectMethod X.admits]; exact q4
  obtain ⟨vm₁, X₁, hstep₁⟩ := X.invokevirtual hexec hown hlink hnamed hmethM hstM hkP hkPi hy (a := b) (cell := cellB) hcell
    (fun z h => by rw [h] at hobj; cases hobj) hselP hmethM habM hkP hkPi (g := g) hg (argsL := argsL) (rest := rest) (hlen _ hsigM) hstack hdg
  obtain ⟨v, B, X', hpost, hsteps⟩ := hK m meth c ⟨T.setVm vm₁, locs, cells, slots⟩ { g with stack := rest } (.invokevirtual index) mk (Value.ref b :: argsL).toArray X₁ hg hsize hdg hW (X₁.named hnamed) (hpre vm₁ X₁.warmed)
  exact ⟨v, vm₁, B, X₁.warmed, X', hpost, fun target h => hstep₁ _ fun acts => by rw [doInvoke_state]; exact hsteps.trans h⟩
abbrev vx_CVW (R : Room) (s : State) (args : Array Value) (own C : String) (index : Nat) (y : MethodName) (bytes : ByteArray) (maxL : Nat) (ret : Option FieldType) (hh : List (Nat × Nat × Nat × Nat)) (ws : List Cond) (rm : Room) (mc ms n : Nat) : Prop :=
  (rm.cells = mc ∧ rm.slots = ms ∧ rm.frames + 1 ≤ R.frames ∧ 8 + (maxL + 11) + rm.locals ≤ R.locals ∧ (∀ w ∈ ws, ∀ (a' : Array Value) (U : State), s.WarmedH U.vm → w.before a' U = true) ∧ Cond.codeWith y bytes maxL ret hh ∈ ws) ∧
  (Cond.codeWith y bytes maxL ret hh).before args s = true ∧ (Cond.initialized y.cls).before args s = true ∧ (y.cls ≠ "java/lang/invoke/MethodHandle" ∧ y.cls ≠ "java/lang/invoke/VarHandle") ∧
  (∀ sig, parseMethodDescriptor y.desc = some sig → n = sig.parameters.length) ∧ (Cond.methodLink own index y).before args s = true ∧ (Cond.instanceMethod y).before args s = true ∧ (Cond.selects C y y).before args s = true
theorem vx_cwVW {own C : String} {index maxL mc ms : Nat} {y : MethodName} {bytes : ByteArray} {ret : Option FieldType} {hh : List (Nat × Nat × Nat × Nat)} {Ts ws ws' : List Cond} {rm : Room} (n : Nat) (ht : ∀ w ∈ Ts, w.before args s = true) (hT : GoodIn Ts (wsV own index C y ws)) (hw : ws = Cond.codeWith y bytes maxL ret hh :: ws') (hrc : rm.cells = mc) (hrs : rm.slots = ms)
    (hd : y.cls = C ∧ y.cls ≠ "java/lang/invoke/MethodHandle" ∧ y.cls ≠ "java/lang/invoke/VarHandle" ∧ (parseMethodDescriptor y.desc).map (fun d => d.parameters.length) = some n) (hR : rm.frames + 1 ≤ R.frames ∧ 8 + (maxL + 11) + rm.locals ≤ R.locals) :
    vx_CVW R s args own C index y bytes maxL ret hh ws rm mc ms n := by
  obtain ⟨hC, hd⟩ := hd
  subst hC
  have ok : ∀ w ∈ wsV own index y.cls y ws, w.before args s = true := fun w h => ht w (hT w h).1
  have hG : GoodIn Ts ws := fun w h => hT w (by unfold wsV; exact List.mem_append_right _ h)
  have hc : Cond.codeWith y bytes maxL ret hh ∈ ws := by rw [hw]; exact List.mem_cons_self
  refine ⟨⟨hrc, hrs, hR.1, hR.2, pay_in ht hG, hc⟩, ht _ (hG _ hc).1, ok _ (by simp [wsV]), ⟨hd.1, hd.2.1⟩, fun sig h => ?_, ok _ (by simp [wsV]), ok _ (by simp [wsV]), ok _ (by simp [wsV])⟩
  have h2 := hd.2.2
  rw [h] at h2
  exact (Option.some.inj h2).symm
theorem vx_runVW {y : MethodName} {bytes cc : ByteArray} {maxL nL mc ms n index : Nat} {ret : Option FieldType} {hh : List (Nat × Nat × Nat × Nat)} {ws : List Cond} {rm : Room} {Pc : Array Value → State → Prop} {Qc : Array Value → State → Outcome → State → Prop} {free : Addr → Prop} {Ts : List Cond} {own C : String} {b : Addr} {As rest : List Value} {g : JFrame}
    (S : CallFix p m c cc nL s args Ts own) (hM : Met l y ws rm Pc Qc mc ms free) (cw : vx_CVW R s args own C index y bytes maxL ret hh ws rm mc ms n) (hp : PreV s H C b Pc As)
    (hg : g.method = m) (hn : As.length = n) (hsize : g.locals.size = nL) (hstack : g.stack = As.reverse ++ .ref b :: rest) (hW : 2 * g.monitorRoom + (rest.map fun v => v.category).sum ≤ 8) (hdg : decode cc g.pc = .ok (.invokevirtual index, 3)) (hf : cells + mc ≤ R.cells ∧ slots + ms ≤ R.slots) :
    va_Run p l e R s m args below meth c H locs cells slots mc ms g rest (Qc (Value.ref b :: As).toArray) free := by
  obtain ⟨⟨hrc, hrs, hfr, hlo, hws, hcw⟩, hcode, hini, hy, hlen, hl, hin, hse⟩ := cw
  have hK : Back l R p e below s args y 3 8 (PreOf R mc ms Pc) (PostOf Qc mc ms free) := va_backW (hh := hh) (bytes := bytes) (maxL := maxL) (ret := ret) hM hp.1 hrc hrs hfr hlo hws hcw (fun a' U hW => word_at hW (Or.inl (by first | rfl | simp [Cond.onTables, Cond.keeps, Cond.steady])) hini)
  obtain ⟨hx, hb, hml, ho, -⟩ := S
  obtain ⟨-, ⟨cellB, hcB, hoB, hclB⟩, hPc⟩ := hp
  intro T hT X
  obtain ⟨v, vm₁, ⟨U', l2, c2, s2⟩, hW₁, X', ⟨g', mk, t, L, e1, e2, hq, h1, hL, h2, h3⟩, st⟩ := vx_callVW X hx (C := C) (hh := hh) (bytes := bytes) (maxL := maxL) (ret := ret) ho hl hin hse hcode hy hK (by rw [hT]; exact hcB) hoB hclB hg (hsize.trans hml.symm) (argsL := As) (rest := rest) (fun sig h => hn.trans (hlen sig h)) hstack hW (by rw [hb]; exact hdg)
    (fun vm₁ hW₁ => ⟨hf.1, hf.2, hPc (T.setVm vm₁) hT hW₁⟩)
  dsimp only [Pt.U, Pt.locs, Pt.cells, Pt.slots] at X' e1 e2 h1 h2 h3 st
  subst h1; subst h2; subst h3
  exact ⟨v, (T.setVm vm₁).calling g' mk (Value.ref b :: As).toArray, t, U', L, hT, X', hL, e1, e2, hq, st⟩
section
variable {y : MethodName} {bytes cc : ByteArray} {maxL nL mc ms n index : Nat} {ret : Option FieldType} {ws : List Cond} {rm : Room} {Pc : Array Value → State → Prop} {Qc : Array Value → State → Outcome → State → Prop} {XC : String → State → State → Prop} {free : Addr → Prop} {Ts : List Cond} {own C : String} {b : Addr} {As rest : List Value} {g : JFrame}
theorem vx_runVX {hh : List (Nat × Nat × Nat × Nat)} (S : CallFix p m c cc nL s args Ts own) (hM : vx_Met l y ws rm Pc Qc XC mc ms free) (cw : vx_CVW R s args own C index y bytes maxL ret hh ws rm mc ms n) (hp : PreV s H C b Pc As)
    (hg : g.method = m) (hn : As.length = n) (hsize : g.locals.size = nL) (hstack : g.stack = As.reverse ++ .ref b :: rest) (hW : 2 * g.monitorRoom + (rest.map fun v => v.category).sum ≤ 8) (hdg : decode cc g.pc = .ok (.invokevirtual index, 3)) (hf : cells + mc ≤ R.cells ∧ slots + ms ≤ R.slots) :
    vx_Run p l e R s m args below meth c H locs cells slots mc ms g rest (Qc (Value.ref b :: As).toArray) XC free := by
  obtain ⟨⟨hrc, hrs, hfr, hlo, hws, hcw⟩, hcode, hini, hy, hlen, hl, hin, hse⟩ := cw
  have hK : vx_Back l R p e below s args y 3 8 (PreOf R mc ms Pc) (PostOf Qc mc ms free) (vx_Post XC mc ms free) := vx_backW (hh := hh) (bytes := bytes) (maxL := maxL) (ret := ret) hM hp.1 hrc hrs hfr hlo hws hcw (fun a' U hW => word_at hW (Or.inl (by first | rfl | simp [Cond.onTables, Cond.keeps, Cond.steady])) hini)
  obtain ⟨hx, hb, hml, ho, -⟩ := S
  obtain ⟨-, ⟨cellB, hcB, hoB, hclB⟩, hPc⟩ := hp
  intro T hT X
  rcases vx_callVX X hx (C := C) (hh := hh) (bytes := bytes) (maxL := maxL) (ret := ret) ho hl hin hse hcode hy hK (by rw [hT]; exact hcB) hoB hclB hg (hsize.trans hml.symm) (argsL := As) (rest := rest) (fun sig h => hn.trans (hlen sig h)) hstack hW (by rw [hb]; exact hdg)
    (fun vm₁ hW₁ => ⟨hf.1, hf.2, hPc (T.setVm vm₁) hT hW₁⟩) with ⟨v, vm₁, ⟨U', l2, c2, s2⟩, hW₁, X', ⟨g', mk, t, L, e1, e2, hq, h1, hL, h2, h3⟩, st⟩ | ⟨q, vm₁, ⟨U', l2, c2, s2⟩, hW₁, X', ⟨g', mk, t, L, E, ce, e1, e2, hq, hce, hcv, hcl, h1, hL, h2, h3⟩, st⟩
  · dsimp only [Pt.U, Pt.locs, Pt.cells, Pt.slots] at X' e1 e2 h1 h2 h3 st
    subst h1; subst h2; subst h3
    exact Or.inl ⟨v, (T.setVm vm₁).calling g' mk (Value.ref b :: As).toArray, t, U', L, hT, X', hL, e1, e2, hq, st⟩
  · dsimp only [Pt.U, Pt.locs, Pt.cells, Pt.slots] at X' e1 e2 h1 h2 h3 st hcl
    subst h1; subst h2; subst h3
    exact Or.inr ⟨q, (T.setVm vm₁).calling g' mk (Value.ref b :: As).toArray, t, U', L, E, ce, hT, X', hL, e1, e2, hq, hce, hcv, vx_cls hW₁ hcl, st⟩
theorem vx_runSX {hh : List (Nat × Nat × Nat × Nat)} (S : CallFix p m c cc nL s args Ts own) (hM : vx_Met l y ws rm Pc Qc XC mc ms free) (cw : vx_CSW R s args own index y bytes maxL ret hh ws rm mc ms n) (hp : PreS s H Pc As)
    (hg : g.method = m) (hn : As.length = n) (hsize : g.locals.size = nL) (hstack : g.stack = As.reverse ++ rest) (hW : 2 * g.monitorRoom + (rest.map fun v => v.category).sum ≤ 8) (hdg : decode cc g.pc = .ok (.invokestatic index, 3)) (hf : cells + mc ≤ R.cells ∧ slots + ms ≤ R.slots) :
    vx_Run p l e R s m args below meth c H locs cells slots mc ms g rest (Qc As.toArray) XC free := by
  obtain ⟨⟨hrc, hrs, hfr, hlo, hws, hcw⟩, hcode, hini, hy, hlen, hl, hstt⟩ := cw
  have hK : vx_Back l R p e below s args y 3 8 (PreOf R mc ms Pc) (PostOf Qc mc ms free) (vx_Post XC mc ms free) := vx_backW (hh := hh) (bytes := bytes) (maxL := maxL) (ret := ret) hM hp.1 hrc hrs hfr hlo hws hcw (fun a' U hW => word_at hW (Or.inl (by first | rfl | simp [Cond.onTables, Cond.keeps, Cond.steady])) hini)
  obtain ⟨hx, hb, hml, ho, -⟩ := S
  intro T hT X
  rcases vx_callSX X hx (hh := hh) (bytes := bytes) (maxL := maxL) (ret := ret) ho hl hstt hini hcode hy hK hg (hsize.trans hml.symm) (argsL := As) (rest := rest) (fun sig h => hn.trans (hlen sig h)) hstack hW (by rw [hb]; exact hdg)
    (fun vm₁ hW₁ => ⟨hf.1, hf.2, hp.2 (T.setVm vm₁) hT hW₁⟩) with ⟨v, vm₁, ⟨U', l2, c2, s2⟩, hW₁, X', ⟨g', mk, t, L, e1, e2, hq, h1, hL, h2, h3⟩, st⟩ | ⟨q, vm₁, ⟨U', l2, c2, s2⟩, hW₁, X', ⟨g', mk, t, L, E, ce, e1, e2, hq, hce, hcv, hcl, h1, hL, h2, h3⟩, st⟩
  · dsimp only [Pt.U, Pt.locs, Pt.cells, Pt.slots] at X' e1 e2 h1 h2 h3 st
    subst h1; subst h2; subst h3
    exact Or.inl ⟨v, (T.setVm vm₁).calling g' mk As.toArray, t, U', L, hT, X', hL, e1, e2, hq, st⟩
  · dsimp only [Pt.U, Pt.locs, Pt.cells, Pt.slots] at X' e1 e2 h1 h2 h3 st hcl
    subst h1; subst h2; subst h3
    exact Or.inr ⟨q, (T.setVm vm₁).calling g' mk As.toArray, t, U', L, E, ce, hT, X', hL, e1, e2, hq, hce, hcv, vx_cls hW₁ hcl, st⟩
end
end VXH
theorem vx_ofWH {l : Launch} {y : MethodName} {ws ws' : List Cond} {rm : Room} {Pc : Array Value → State → Prop} {Qc : Array Value → State → Outcome → State → Prop} {XC : String → State → State → Prop} {mc ms : Nat} {free : Addr → Prop} {cc : ByteArray} {maxL : Nat} {ret : Option FieldType} {hh : List (Nat × Nat × Nat × Nat)}
    (hy : plainName y.cls = true) (hw : ws = Cond.codeWith y cc maxL ret hh :: ws')
    (body : ∀ p e s m args below meth c s₁, BodyLoose p l y (headSpec ws rm) cc maxL ret e s m args below meth c s₁ → c.maxLocals = maxL → Pc args s →
      W p l e (headSpec ws rm).room s m args below meth c s.heap [] 0 0 (vx_MQ below Qc XC args s mc ms free) (entryFrame m args maxL)) : vx_Met l y ws rm Pc Qc XC mc ms free := by
  refine MetFree.of_bodyS (code := cc) (maxLocals := maxL) (ret := ret) hy ?_ ?_
  · intro args s m h hn
    obtain ⟨m9, meth, c, hn9, h1, h2, h3, h4, -, h5, h6, -⟩ := Cond.codeWith_spec (atoms_spec (ws := ws) h _ (by rw [hw]; exact List.mem_cons_self))
    cases hn.symm.trans hn9
    exact ⟨meth, c, h1, h2, h3, h4, h5, h6⟩
  · intro p e s m args below meth c s₁ B hml hP _
    have hh0 : s₁.heap = s.heap := by rw [B.state]; rfl
    obtain ⟨t, a1, o, b1, b2, b3⟩ := body p e s m args below meth c s₁ B hml hP s₁ hh0 (Stand.of_body B)
    exact ⟨t, o, a1, b1, b2, b3⟩
/-! ===== END ===== -/
end
section
/-! ===== BEGIN printed: names, fields, word lists, decode rows ===== -/
def RX0 : String := "KinLedger$Check"
def TX0 : u_T := fun k => match k with
  | 0 => ("KinLedger$Check", "table", "I", true)
  | 1 => ("KinLedger$Check", "words", "[I", true)
  | _ => ("KinLedger$Check", "pile", "[I", true)
def tyX0 : Nat → FieldType := fun k => match k with
  | 0 => .int
  | 1 => .array .int
  | _ => .array .int
abbrev wsX00 : List Cond := u_ws RX0 TX0 3
theorem nmX0 : ∀ a, a < 3 → ∀ b, b < 3 → a ≠ b → (TX0 a).2.1 ≠ (TX0 b).2.1 := by decide +kernel
theorem tyX0_ok : ∀ k, k < 3 → parseFieldDescriptor (TX0 k).2.2.1 = some (tyX0 k) := by decide +kernel
abbrev cX0_init : ByteArray := prog_2_method_1_code
def yX0_init : MethodName := ⟨RX0, "<init>", "(I[I)V"⟩
abbrev cX0_isWord : ByteArray := prog_2_method_2_code
def yX0_isWord : MethodName := ⟨RX0, "isWord", "(I)Z"⟩
abbrev cX0_areRight : ByteArray := prog_2_method_3_code
def yX0_areRight : MethodName := ⟨RX0, "areRight", "([II)Z"⟩
abbrev cX0_taken : ByteArray := prog_2_method_4_code
def yX0_taken : MethodName := ⟨RX0, "taken", "(I)I"⟩
abbrev cX0_isBroken : ByteArray := prog_2_method_5_code
def yX0_isBroken : MethodName := ⟨RX0, "isBroken", "(LKinLedger$Rows;)Z"⟩
abbrev cX0_result : ByteArray := prog_2_method_6_code
def yX0_result : MethodName := ⟨RX0, "result", "(LKinLedger$Rows;I)I"⟩
abbrev cX0_laid : ByteArray := prog_2_method_7_code
def yX0_laid : MethodName := ⟨RX0, "laid", "(ILKinLedger$Rows;I)I"⟩
abbrev cX0_worked : ByteArray := prog_2_method_8_code
def yX0_worked : MethodName := ⟨RX0, "worked", "(II)I"⟩
def RX1 : String := "KinLedger$Link"
def TX1 : u_T := fun k => match k with
  | 0 => ("KinLedger$Link", "child", "I", true)
  | 1 => ("KinLedger$Link", "column", "I", true)
  | 2 => ("KinLedger$Link", "parent", "I", true)
  | _ => ("KinLedger$Link", "way", "I", true)
def tyX1 : Nat → FieldType := fun k => match k with
  | 0 => .int
  | 1 => .int
  | 2 => .int
  | _ => .int
abbrev wsX10 : List Cond := u_ws RX1 TX1 4
theorem nmX1 : ∀ a, a < 4 → ∀ b, b < 4 → a ≠ b → (TX1 a).2.1 ≠ (TX1 b).2.1 := by decide +kernel
theorem tyX1_ok : ∀ k, k < 4 → parseFieldDescriptor (TX1 k).2.2.1 = some (tyX1 k) := by decide +kernel
abbrev cX1_init : ByteArray := prog_3_method_1_code
def yX1_init : MethodName := ⟨RX1, "<init>", "(IIII)V"⟩
abbrev cX1_target : ByteArray := prog_3_method_2_code
def yX1_target : MethodName := ⟨RX1, "target", "(LKinLedger$Rows;I)I"⟩
abbrev cX1_isBroken : ByteArray := prog_3_method_3_code
def yX1_isBroken : MethodName := ⟨RX1, "isBroken", "(LKinLedger$Rows;)Z"⟩
abbrev cX1_refers : ByteArray := prog_3_method_4_code
def yX1_refers : MethodName := ⟨RX1, "refers", "(LKinLedger$Rows;I)Z"⟩
def RX2 : String := "KinLedger$Rows"
def TX2 : u_T := fun k => match k with
  | 0 => ("KinLedger$Rows", "tables", "[I", true)
  | _ => ("KinLedger$Rows", "cells", "[I", true)
def tyX2 : Nat → FieldType := fun k => match k with
  | 0 => .array .int
  | _ => .array .int
abbrev wsX20 : List Cond := u_ws RX2 TX2 2
theorem nmX2 : ∀ a, a < 2 → ∀ b, b < 2 → a ≠ b → (TX2 a).2.1 ≠ (TX2 b).2.1 := by decide +kernel
theorem tyX2_ok : ∀ k, k < 2 → parseFieldDescriptor (TX2 k).2.2.1 = some (tyX2 k) := by decide +kernel
abbrev cX2_init : ByteArray := prog_4_method_1_code
def yX2_init : MethodName := ⟨RX2, "<init>", "()V"⟩
abbrev cX2_become : ByteArray := prog_4_method_2_code
def yX2_become : MethodName := ⟨RX2, "become", "(LKinLedger$Rows;)V"⟩
abbrev cX2_holds : ByteArray := prog_4_method_3_code
def yX2_holds : MethodName := ⟨RX2, "holds", "(II)Z"⟩
abbrev cX2_at : ByteArray := prog_4_method_4_code
def yX2_at : MethodName := ⟨RX2, "at", "(II)I"⟩
abbrev cX2_put : ByteArray := prog_4_method_5_code
def yX2_put : MethodName := ⟨RX2, "put", "(III)V"⟩
abbrev cX2_add : ByteArray := prog_4_method_6_code
def yX2_add : MethodName := ⟨RX2, "add", "(II)V"⟩
abbrev cX2_remove : ByteArray := prog_4_method_7_code
def yX2_remove : MethodName := ⟨RX2, "remove", "(I)V"⟩
abbrev cX2_freePlace : ByteArray := prog_4_method_8_code
def yX2_freePlace : MethodName := ⟨RX2, "freePlace", "()I"⟩
abbrev cX2_size : ByteArray := prog_4_method_9_code
def yX2_size : MethodName := ⟨RX2, "size", "(I)I"⟩
abbrev cX2_find : ByteArray := prog_4_method_10_code
def yX2_find : MethodName := ⟨RX2, "find", "(II)I"⟩
abbrev cX2_placeOfRank : ByteArray := prog_4_method_11_code
def yX2_placeOfRank : MethodName := ⟨RX2, "placeOfRank", "(II)I"⟩
abbrev cX2_lesserKeys : ByteArray := prog_4_method_12_code
def yX2_lesserKeys : MethodName := ⟨RX2, "lesserKeys", "(II)I"⟩
abbrev cX2_hasTwins : ByteArray := prog_4_method_13_code
def yX2_hasTwins : MethodName := ⟨RX2, "hasTwins", "(II)Z"⟩
abbrev cX2_hasTwinBefore : ByteArray := prog_4_method_14_code
def yX2_hasTwinBefore : MethodName := ⟨RX2, "hasTwinBefore", "(II)Z"⟩
def RX3 : String := "KinLedger$Single"
def TX3 : u_T := fun k => match k with
  | 0 => ("KinLedger$Single", "table", "I", true)
  | _ => ("KinLedger$Single", "column", "I", true)
def tyX3 : Nat → FieldType := fun k => match k with
  | 0 => .int
  | _ => .int
abbrev wsX30 : List Cond := u_ws RX3 TX3 2
theorem nmX3 : ∀ a, a < 2 → ∀ b, b < 2 → a ≠ b → (TX3 a).2.1 ≠ (TX3 b).2.1 := by decide +kernel
theorem tyX3_ok : ∀ k, k < 2 → parseFieldDescriptor (TX3 k).2.2.1 = some (tyX3 k) := by decide +kernel
abbrev cX3_init : ByteArray := prog_5_method_1_code
def yX3_init : MethodName := ⟨RX3, "<init>", "(II)V"⟩
abbrev cX3_isBroken : ByteArray := prog_5_method_2_code
def yX3_isBroken : MethodName := ⟨RX3, "isBroken", "(LKinLedger$Rows;)Z"⟩
def RX4 : String := "KinLedger"
def TX4 : u_T := fun k => match k with
  | 0 => ("KinLedger", "columnCounts", "[I", true)
  | 1 => ("KinLedger", "tableCount", "I", false)
  | 2 => ("KinLedger", "links", "[LKinLedger$Link;", true)
  | 3 => ("KinLedger", "linkCount", "I", false)
  | 4 => ("KinLedger", "singles", "[LKinLedger$Single;", true)
  | 5 => ("KinLedger", "singleCount", "I", false)
  | 6 => ("KinLedger", "checks", "[LKinLedger$Check;", true)
  | 7 => ("KinLedger", "checkCount", "I", false)
  | 8 => ("KinLedger", "waiting", "[I", true)
  | 9 => ("KinLedger", "waitingCount", "I", false)
  | 10 => ("KinLedger", "rows", "LKinLedger$Rows;", true)
  | 11 => ("KinLedger", "draft", "LKinLedger$Rows;", true)
  | 12 => ("KinLedger", "remembered", "[LKinLedger$Rows;", true)
  | 13 => ("KinLedger", "rememberedCount", "I", false)
  | 14 => ("KinLedger", "going", "[Z", true)
  | _ => ("KinLedger", "latestReason", "I", false)
def tyX4 : Nat → FieldType := fun k => match k with
  | 0 => .array .int
  | 1 => .int
  | 2 => .array (.object "KinLedger$Link")
  | 3 => .int
  | 4 => .array (.object "KinLedger$Single")
  | 5 => .int
  | 6 => .array (.object "KinLedger$Check")
  | 7 => .int
  | 8 => .array .int
  | 9 => .int
  | 10 => .object "KinLedger$Rows"
  | 11 => .object "KinLedger$Rows"
  | 12 => .array (.object "KinLedger$Rows")
  | 13 => .int
  | 14 => .array .boolean
  | _ => .int
abbrev wsX40 : List Cond := u_ws RX4 TX4 16
theorem nmX4 : ∀ a, a < 16 → ∀ b, b < 16 → a ≠ b → (TX4 a).2.1 ≠ (TX4 b).2.1 := by decide +kernel
theorem tyX4_ok : ∀ k, k < 16 → parseFieldDescriptor (TX4 k).2.2.1 = some (tyX4 k) := by decide +kernel
abbrev cX4_init : ByteArray := prog_1_method_1_code
def yX4_init : MethodName := ⟨RX4, "<init>", "()V"⟩
abbrev cX4_table : ByteArray := prog_1_method_2_code
def yX4_table : MethodName := ⟨RX4, "table", "(I)I"⟩
abbrev cX4_link : ByteArray := prog_1_method_3_code
def yX4_link : MethodName := ⟨RX4, "link", "(IIII)I"⟩
abbrev cX4_single : ByteArray := prog_1_method_4_code
def yX4_single : MethodName := ⟨RX4, "single", "(II)I"⟩
abbrev cX4_word : ByteArray := prog_1_method_5_code
def yX4_word : MethodName := ⟨RX4, "word", "(I)I"⟩
abbrev cX4_check : ByteArray := prog_1_method_6_code
def yX4_check : MethodName := ⟨RX4, "check", "(I)I"⟩
abbrev cX4_insert : ByteArray := prog_1_method_7_code
def yX4_insert : MethodName := ⟨RX4, "insert", "(IIIII)V"⟩
abbrev cX4_delete : ByteArray := prog_1_method_8_code
def yX4_delete : MethodName := ⟨RX4, "delete", "(III)I"⟩
abbrev cX4_update : ByteArray := prog_1_method_9_code
def yX4_update : MethodName := ⟨RX4, "update", "(IIII)I"⟩
abbrev cX4_shift : ByteArray := prog_1_method_10_code
def yX4_shift : MethodName := ⟨RX4, "shift", "(III)I"⟩
abbrev cX4_keep : ByteArray := prog_1_method_11_code
def yX4_keep : MethodName := ⟨RX4, "keep", "()I"⟩
abbrev cX4_back : ByteArray := prog_1_method_12_code
def yX4_back : MethodName := ⟨RX4, "back", "()I"⟩
abbrev cX4_has : ByteArray := prog_1_method_13_code
def yX4_has : MethodName := ⟨RX4, "has", "(II)Z"⟩
abbrev cX4_cell : ByteArray := prog_1_method_14_code
def yX4_cell : MethodName := ⟨RX4, "cell", "(III)I"⟩
abbrev cX4_key : ByteArray := prog_1_method_15_code
def yX4_key : MethodName := ⟨RX4, "key", "(II)I"⟩
abbrev cX4_count : ByteArray := prog_1_method_16_code
def yX4_count : MethodName := ⟨RX4, "count", "(I)I"⟩
abbrev cX4_referring : ByteArray := prog_1_method_17_code
def yX4_referring : MethodName := ⟨RX4, "referring", "(II)I"⟩
abbrev cX4_reason : ByteArray := prog_1_method_18_code
def yX4_reason : MethodName := ⟨RX4, "reason", "()I"⟩
abbrev cX4_isTable : ByteArray := prog_1_method_19_code
def yX4_isTable : MethodName := ⟨RX4, "isTable", "(I)Z"⟩
abbrev cX4_isColumn : ByteArray := prog_1_method_20_code
def yX4_isColumn : MethodName := ⟨RX4, "isColumn", "(II)Z"⟩
abbrev cX4_isCellColumn : ByteArray := prog_1_method_21_code
def yX4_isCellColumn : MethodName := ⟨RX4, "isCellColumn", "(II)Z"⟩
abbrev cX4_needArgument : ByteArray := prog_1_method_22_code
def yX4_needArgument : MethodName := ⟨RX4, "needArgument", "(Z)V"⟩
abbrev cX4_needElement : ByteArray := prog_1_method_23_code
def yX4_needElement : MethodName := ⟨RX4, "needElement", "(Z)V"⟩
abbrev cX4_refuseIf : ByteArray := prog_1_method_24_code
def yX4_refuseIf : MethodName := ⟨RX4, "refuseIf", "(ZI)V"⟩
abbrev cX4_settle : ByteArray := prog_1_method_25_code
def yX4_settle : MethodName := ⟨RX4, "settle", "(I)V"⟩
abbrev cX4_whyBroken : ByteArray := prog_1_method_26_code
def yX4_whyBroken : MethodName := ⟨RX4, "whyBroken", "(LKinLedger$Rows;)I"⟩
abbrev cX4_markGoing : ByteArray := prog_1_method_27_code
def yX4_markGoing : MethodName := ⟨RX4, "markGoing", "(III)V"⟩
abbrev cX4_spreadGoing : ByteArray := prog_1_method_28_code
def yX4_spreadGoing : MethodName := ⟨RX4, "spreadGoing", "()Z"⟩
abbrev cX4_losesTarget : ByteArray := prog_1_method_29_code
def yX4_losesTarget : MethodName := ⟨RX4, "losesTarget", "(LKinLedger$Link;I)Z"⟩
abbrev cX4_removeGoing : ByteArray := prog_1_method_30_code
def yX4_removeGoing : MethodName := ⟨RX4, "removeGoing", "()I"⟩
abbrev cX4_loosenFromGoing : ByteArray := prog_1_method_31_code
def yX4_loosenFromGoing : MethodName := ⟨RX4, "loosenFromGoing", "()I"⟩
abbrev cX4_passOnKey : ByteArray := prog_1_method_32_code
def yX4_passOnKey : MethodName := ⟨RX4, "passOnKey", "(II)I"⟩
def RX5 : String := "KinLedgerModel"
def TX5 : u_T := fun k => match k with
  | 0 => ("KinLedgerModel", "code", "I", false)
  | 1 => ("KinLedgerModel", "reason", "I", false)
  | 2 => ("KinLedgerModel", "tables", "I", false)
  | 3 => ("KinLedgerModel", "columns", "[I", true)
  | 4 => ("KinLedgerModel", "rows", "I", false)
  | 5 => ("KinLedgerModel", "of", "[I", true)
  | 6 => ("KinLedgerModel", "cells", "[I", true)
  | 7 => ("KinLedgerModel", "oldRows", "I", false)
  | 8 => ("KinLedgerModel", "oldOf", "[I", true)
  | 9 => ("KinLedgerModel", "old", "[I", true)
  | 10 => ("KinLedgerModel", "gone", "[Z", true)
  | 11 => ("KinLedgerModel", "links", "I", false)
  | 12 => ("KinLedgerModel", "child", "[I", true)
  | 13 => ("KinLedgerModel", "linkColumn", "[I", true)
  | 14 => ("KinLedgerModel", "parent", "[I", true)
  | 15 => ("KinLedgerModel", "ways", "[I", true)
  | 16 => ("KinLedgerModel", "singles", "I", false)
  | 17 => ("KinLedgerModel", "singleTable", "[I", true)
  | 18 => ("KinLedgerModel", "singleColumn", "[I", true)
  | 19 => ("KinLedgerModel", "checks", "I", false)
  | 20 => ("KinLedgerModel", "checkTable", "[I", true)
  | 21 => ("KinLedgerModel", "checkLength", "[I", true)
  | 22 => ("KinLedgerModel", "checkWords", "[I", true)
  | 23 => ("KinLedgerModel", "waiting", "I", false)
  | 24 => ("KinLedgerModel", "words", "[I", true)
  | 25 => ("KinLedgerModel", "high", "I", false)
  | 26 => ("KinLedgerModel", "pile", "[I", true)
  | 27 => ("KinLedgerModel", "kept", "I", false)
  | 28 => ("KinLedgerModel", "keptRows", "[I", true)
  | 29 => ("KinLedgerModel", "keptOf", "[I", true)
  | _ => ("KinLedgerModel", "keptCells", "[I", true)
def tyX5 : Nat → FieldType := fun k => match k with
  | 0 => .int
  | 1 => .int
  | 2 => .int
  | 3 => .array .int
  | 4 => .int
  | 5 => .array .int
  | 6 => .array .int
  | 7 => .int
  | 8 => .array .int
  | 9 => .array .int
  | 10 => .array .boolean
  | 11 => .int
  | 12 => .array .int
  | 13 => .array .int
  | 14 => .array .int
  | 15 => .array .int
  | 16 => .int
  | 17 => .array .int
  | 18 => .array .int
  | 19 => .int
  | 20 => .array .int
  | 21 => .array .int
  | 22 => .array .int
  | 23 => .int
  | 24 => .array .int
  | 25 => .int
  | 26 => .array .int
  | 27 => .int
  | 28 => .array .int
  | 29 => .array .int
  | _ => .array .int
abbrev wsX50 : List Cond := u_ws RX5 TX5 31
theorem nmX5 : ∀ a, a < 31 → ∀ b, b < 31 → a ≠ b → (TX5 a).2.1 ≠ (TX5 b).2.1 := by decide +kernel
theorem tyX5_ok : ∀ k, k < 31 → parseFieldDescriptor (TX5 k).2.2.1 = some (tyX5 k) := by decide +kernel
abbrev cX5_init : ByteArray := prog_7_method_1_code
def yX5_init : MethodName := ⟨RX5, "<init>", "()V"⟩
abbrev cX5_thrown : ByteArray := prog_7_method_2_code
def yX5_thrown : MethodName := ⟨RX5, "thrown", "()I"⟩
abbrev cX5_isTable : ByteArray := prog_7_method_3_code
def yX5_isTable : MethodName := ⟨RX5, "isTable", "(I)Z"⟩
abbrev cX5_isColumn : ByteArray := prog_7_method_4_code
def yX5_isColumn : MethodName := ⟨RX5, "isColumn", "(II)Z"⟩
abbrev cX5_table : ByteArray := prog_7_method_5_code
def yX5_table : MethodName := ⟨RX5, "table", "(I)I"⟩
abbrev cX5_find : ByteArray := prog_7_method_6_code
def yX5_find : MethodName := ⟨RX5, "find", "(II)I"⟩
abbrev cX5_breaksLink : ByteArray := prog_7_method_7_code
def yX5_breaksLink : MethodName := ⟨RX5, "breaksLink", "(I)Z"⟩
abbrev cX5_twice : ByteArray := prog_7_method_8_code
def yX5_twice : MethodName := ⟨RX5, "twice", "(II)Z"⟩
abbrev cX5_reckon : ByteArray := prog_7_method_9_code
def yX5_reckon : MethodName := ⟨RX5, "reckon", "(III)I"⟩
abbrev cX5_result : ByteArray := prog_7_method_10_code
def yX5_result : MethodName := ⟨RX5, "result", "(II)I"⟩
abbrev cX5_breaksCheck : ByteArray := prog_7_method_11_code
def yX5_breaksCheck : MethodName := ⟨RX5, "breaksCheck", "(I)Z"⟩
abbrev cX5_wrong : ByteArray := prog_7_method_12_code
def yX5_wrong : MethodName := ⟨RX5, "wrong", "()I"⟩
abbrev cX5_link : ByteArray := prog_7_method_13_code
def yX5_link : MethodName := ⟨RX5, "link", "(IIII)I"⟩
abbrev cX5_single : ByteArray := prog_7_method_14_code
def yX5_single : MethodName := ⟨RX5, "single", "(II)I"⟩
abbrev cX5_word : ByteArray := prog_7_method_15_code
def yX5_word : MethodName := ⟨RX5, "word", "(I)I"⟩
abbrev cX5_isRight : ByteArray := prog_7_method_16_code
def yX5_isRight : MethodName := ⟨RX5, "isRight", "(I)Z"⟩
abbrev cX5_check : ByteArray := prog_7_method_17_code
def yX5_check : MethodName := ⟨RX5, "check", "(I)I"⟩
abbrev cX5_remember : ByteArray := prog_7_method_18_code
def yX5_remember : MethodName := ⟨RX5, "remember", "()V"⟩
abbrev cX5_restore : ByteArray := prog_7_method_19_code
def yX5_restore : MethodName := ⟨RX5, "restore", "()V"⟩
abbrev cX5_settle : ByteArray := prog_7_method_20_code
def yX5_settle : MethodName := ⟨RX5, "settle", "(II)I"⟩
abbrev cX5_referred : ByteArray := prog_7_method_21_code
def yX5_referred : MethodName := ⟨RX5, "referred", "(III)Z"⟩
abbrev cX5_insert : ByteArray := prog_7_method_22_code
def yX5_insert : MethodName := ⟨RX5, "insert", "(IIIII)V"⟩
abbrev cX5_spread : ByteArray := prog_7_method_23_code
def yX5_spread : MethodName := ⟨RX5, "spread", "()V"⟩
abbrev cX5_loosen : ByteArray := prog_7_method_24_code
def yX5_loosen : MethodName := ⟨RX5, "loosen", "()I"⟩
abbrev cX5_delete : ByteArray := prog_7_method_25_code
def yX5_delete : MethodName := ⟨RX5, "delete", "(III)I"⟩
abbrev cX5_rename : ByteArray := prog_7_method_26_code
def yX5_rename : MethodName := ⟨RX5, "rename", "(II)I"⟩
abbrev cX5_update : ByteArray := prog_7_method_27_code
def yX5_update : MethodName := ⟨RX5, "update", "(IIII)I"⟩
abbrev cX5_shift : ByteArray := prog_7_method_28_code
def yX5_shift : MethodName := ⟨RX5, "shift", "(III)I"⟩
abbrev cX5_keep : ByteArray := prog_7_method_29_code
def yX5_keep : MethodName := ⟨RX5, "keep", "()I"⟩
abbrev cX5_back : ByteArray := prog_7_method_30_code
def yX5_back : MethodName := ⟨RX5, "back", "()I"⟩
abbrev cX5_has : ByteArray := prog_7_method_31_code
def yX5_has : MethodName := ⟨RX5, "has", "(II)Z"⟩
abbrev cX5_cell : ByteArray := prog_7_method_32_code
def yX5_cell : MethodName := ⟨RX5, "cell", "(III)I"⟩
abbrev cX5_key : ByteArray := prog_7_method_33_code
def yX5_key : MethodName := ⟨RX5, "key", "(II)I"⟩
abbrev cX5_count : ByteArray := prog_7_method_34_code
def yX5_count : MethodName := ⟨RX5, "count", "(I)I"⟩
abbrev cX5_referring : ByteArray := prog_7_method_35_code
def yX5_referring : MethodName := ⟨RX5, "referring", "(II)I"⟩
abbrev cX5_reason : ByteArray := prog_7_method_36_code
def yX5_reason : MethodName := ⟨RX5, "reason", "()I"⟩
def RJx145de : String := "java/io/Serializable"
def TJx145de : u_T := fun k => match k with
  | _ => ("", "", "", false)
def tyJx145de : Nat → FieldType := fun k => match k with
  | _ => .int
abbrev wsJx145de0 : List Cond := u_ws RJx145de TJx145de 0
theorem nmJx145de : ∀ a, a < 0 → ∀ b, b < 0 → a ≠ b → (TJx145de a).2.1 ≠ (TJx145de b).2.1 := by decide +kernel
theorem tyJx145de_ok : ∀ k, k < 0 → parseFieldDescriptor (TJx145de k).2.2.1 = some (tyJx145de k) := by decide +kernel
def RJx8e188 : String := "java/lang/Cloneable"
def TJx8e188 : u_T := fun k => match k with
  | _ => ("", "", "", false)
def tyJx8e188 : Nat → FieldType := fun k => match k with
  | _ => .int
abbrev wsJx8e1880 : List Cond := u_ws RJx8e188 TJx8e188 0
theorem nmJx8e188 : ∀ a, a < 0 → ∀ b, b < 0 → a ≠ b → (TJx8e188 a).2.1 ≠ (TJx8e188 b).2.1 := by decide +kernel
theorem tyJx8e188_ok : ∀ k, k < 0 → parseFieldDescriptor (TJx8e188 k).2.2.1 = some (tyJx8e188 k) := by decide +kernel
def RJ9 : String := "java/lang/Math"
def TJ9 : u_T := fun k => match k with
  | _ => ("", "", "", false)
def tyJ9 : Nat → FieldType := fun k => match k with
  | _ => .int
abbrev wsJ90 : List Cond := u_ws RJ9 TJ9 0
theorem nmJ9 : ∀ a, a < 0 → ∀ b, b < 0 → a ≠ b → (TJ9 a).2.1 ≠ (TJ9 b).2.1 := by decide +kernel
theorem tyJ9_ok : ∀ k, k < 0 → parseFieldDescriptor (TJ9 k).2.2.1 = some (tyJ9 k) := by decide +kernel
abbrev cJ9_min_7cf53 : ByteArray := prog_14_method_69_code
def yJ9_min_7cf53 : MethodName := ⟨RJ9, "min", "(II)I"⟩
def RJ10 : String := "java/lang/System"
def TJ10 : u_T := fun k => match k with
  | _ => ("", "", "", false)
def tyJ10 : Nat → FieldType := fun k => match k with
  | _ => .int
abbrev wsJ100 : List Cond := u_ws RJ10 TJ10 0
theorem nmJ10 : ∀ a, a < 0 → ∀ b, b < 0 → a ≠ b → (TJ10 a).2.1 ≠ (TJ10 b).2.1 := by decide +kernel
theorem tyJ10_ok : ∀ k, k < 0 → parseFieldDescriptor (TJ10 k).2.2.1 = some (tyJ10 k) := by decide +kernel
def RJ7 : String := "java/util/Arrays"
def TJ7 : u_T := fun k => match k with
  | _ => ("", "", "", false)
def tyJ7 : Nat → FieldType := fun k => match k with
  | _ => .int
abbrev wsJ70 : List Cond := u_ws RJ7 TJ7 0
theorem nmJ7 : ∀ a, a < 0 → ∀ b, b < 0 → a ≠ b → (TJ7 a).2.1 ≠ (TJ7 b).2.1 := by decide +kernel
theorem tyJ7_ok : ∀ k, k < 0 → parseFieldDescriptor (TJ7 k).2.2.1 = some (tyJ7 k) := by decide +kernel
abbrev cJ7_fill_53178 : ByteArray := prog_18_method_103_code
def yJ7_fill_53178 : MethodName := ⟨RJ7, "fill", "([II)V"⟩
abbrev cJ7_copyOf_59c91 : ByteArray := prog_18_method_123_code
def yJ7_copyOf_59c91 : MethodName := ⟨RJ7, "copyOf", "([II)[I"⟩
def RL : String := "KinLedgerLaw"
abbrev cL_table : ByteArray := method_3_code
def yL_table : MethodName := ⟨RL, "table", "(LKinLedger;I[J)I"⟩
abbrev cL_link : ByteArray := method_4_code
def yL_link : MethodName := ⟨RL, "link", "(LKinLedger;IIII[J)I"⟩
abbrev cL_single : ByteArray := method_5_code
def yL_single : MethodName := ⟨RL, "single", "(LKinLedger;II[J)I"⟩
abbrev cL_word : ByteArray := method_6_code
def yL_word : MethodName := ⟨RL, "word", "(LKinLedger;I[J)I"⟩
abbrev cL_check : ByteArray := method_7_code
def yL_check : MethodName := ⟨RL, "check", "(LKinLedger;I[J)I"⟩
abbrev cL_insert : ByteArray := method_8_code
def yL_insert : MethodName := ⟨RL, "insert", "(LKinLedger;IIIII)I"⟩
abbrev cL_delete : ByteArray := method_9_code
def yL_delete : MethodName := ⟨RL, "delete", "(LKinLedger;III[J)I"⟩
abbrev cL_update : ByteArray := method_10_code
def yL_update : MethodName := ⟨RL, "update", "(LKinLedger;IIII[J)I"⟩
abbrev cL_shift : ByteArray := method_11_code
def yL_shift : MethodName := ⟨RL, "shift", "(LKinLedger;III[J)I"⟩
abbrev cL_keep : ByteArray := method_12_code
def yL_keep : MethodName := ⟨RL, "keep", "(LKinLedger;[J)I"⟩
abbrev cL_back : ByteArray := method_13_code
def yL_back : MethodName := ⟨RL, "back", "(LKinLedger;[J)I"⟩
abbrev cL_has : ByteArray := method_14_code
def yL_has : MethodName := ⟨RL, "has", "(LKinLedger;II[J)I"⟩
abbrev cL_cell : ByteArray := method_15_code
def yL_cell : MethodName := ⟨RL, "cell", "(LKinLedger;III[J)I"⟩
abbrev cL_key : ByteArray := method_16_code
def yL_key : MethodName := ⟨RL, "key", "(LKinLedger;II[J)I"⟩
abbrev cL_count : ByteArray := method_17_code
def yL_count : MethodName := ⟨RL, "count", "(LKinLedger;I[J)I"⟩
abbrev cL_referring : ByteArray := method_18_code
def yL_referring : MethodName := ⟨RL, "referring", "(LKinLedger;II[J)I"⟩
abbrev cL_law : ByteArray := code
def yL_law : MethodName := ⟨RL, "law", "([I)Z"⟩
def wsX0_init : List Cond := .code yX0_init cX0_init 3 none :: ([.methodLink RX0 3 objectInit, .instanceMethod objectInit, .code objectInit ⟨#[0xb1]⟩ 1 none, .fieldLink RX0 9 "KinLedger$Check" "table" "I", .fieldLink RX0 15 "KinLedger$Check" "words" "[I", .arrayClass .int, .fieldLink RX0 19 "KinLedger$Check" "pile" "[I"] ++ wsX00)
def wsX0_isWord : List Cond := .code yX0_isWord cX0_isWord 1 (some .boolean) :: ([])
def wsX0_taken : List Cond := .code yX0_taken cX0_taken 1 (some .int) :: ([])
def wsX0_areRight : List Cond := .code yX0_areRight cX0_areRight 6 (some .boolean) :: ([.methodLink RX0 22 yX0_taken, .static yX0_taken, .initialized RX0, .code yX0_taken cX0_taken 1 (some .int)])
def wsX2_holds : List Cond := .code yX2_holds cX2_holds 3 (some .boolean) :: ([.fieldLink RX2 9 "KinLedger$Rows" "tables" "[I"] ++ wsX20)
def wsX2_at : List Cond := .code yX2_at cX2_at 3 (some .int) :: ([.fieldLink RX2 15 "KinLedger$Rows" "cells" "[I"] ++ wsX20)
def wsX0_laid : List Cond := .code yX0_laid cX0_laid 3 (some .int) :: ([.methodLink RX0 44 yX2_at, .instanceMethod yX2_at, .selects RX2 yX2_at yX2_at, .initialized RX2, .code yX2_at cX2_at 3 (some .int), .fieldLink RX2 15 "KinLedger$Rows" "cells" "[I"] ++ wsX20)
def wsX0_worked : List Cond := .code yX0_worked cX0_worked 5 (some .int) :: ([.fieldLink RX0 19 "KinLedger$Check" "pile" "[I"] ++ wsX00)
def wsX0_result : List Cond := .code yX0_result cX0_result 6 (some .int) :: ([.fieldLink RX0 15 "KinLedger$Check" "words" "[I", .fieldLink RX0 19 "KinLedger$Check" "pile" "[I", .methodLink RX0 22 yX0_taken, .static yX0_taken, .initialized RX0, .code yX0_taken cX0_taken 1 (some .int), .methodLink RX0 36 yX0_laid, .static yX0_laid, .code yX0_laid cX0_laid 3 (some .int), .methodLink RX0 44 yX2_at, .instanceMethod yX2_at, .selects RX2 yX2_at yX2_at, .initialized RX2, .code yX2_at cX2_at 3 (some .int), .fieldLink RX2 15 "KinLedger$Rows" "cells" "[I", .methodLink RX0 40 yX0_worked, .instanceMethod yX0_worked, .selects RX0 yX0_worked yX0_worked, .code yX0_worked cX0_worked 5 (some .int)] ++ wsX00 ++ wsX20)
def wsX0_isBroken_r1 : List Cond := [Cond.fieldLink RX0 9 "KinLedger$Check" "table" "I", Cond.methodLink RX0 26 yX2_holds, Cond.instanceMethod yX2_holds, Cond.selects RX2 yX2_holds yX2_holds, Cond.initialized RX2, Cond.code yX2_holds cX2_holds 3 (some .boolean), Cond.fieldLink RX2 9 "KinLedger$Rows" "tables" "[I", Cond.methodLink RX0 32 yX0_result, Cond.instanceMethod yX0_result, Cond.selects RX0 yX0_result yX0_result, Cond.initialized RX0, Cond.code yX0_result cX0_result 6 (some .int), Cond.fieldLink RX0 15 "KinLedger$Check" "words" "[I", Cond.fieldLink RX0 19 "KinLedger$Check" "pile" "[I", Cond.methodLink RX0 22 yX0_taken, Cond.static yX0_taken, Cond.code yX0_taken cX0_taken 1 (some .int), Cond.methodLink RX0 36 yX0_laid, Cond.static yX0_laid, Cond.code yX0_laid cX0_laid 3 (some .int), Cond.methodLink RX0 44 yX2_at, Cond.instanceMethod yX2_at, Cond.selects RX2 yX2_at yX2_at, Cond.code yX2_at cX2_at 3 (some .int)]
def wsX0_isBroken_r2 : List Cond := [Cond.fieldLink RX2 15 "KinLedger$Rows" "cells" "[I", Cond.methodLink RX0 40 yX0_worked, Cond.instanceMethod yX0_worked, Cond.selects RX0 yX0_worked yX0_worked, Cond.code yX0_worked cX0_worked 5 (some .int)]
def wsX0_isBroken : List Cond := .code yX0_isBroken cX0_isBroken 3 (some .boolean) :: ((wsX0_isBroken_r1 ++ wsX0_isBroken_r2) ++ wsX00 ++ wsX20)
def wsX1_init : List Cond := .code yX1_init cX1_init 5 none :: ([.methodLink RX1 3 objectInit, .instanceMethod objectInit, .code objectInit ⟨#[0xb1]⟩ 1 none, .fieldLink RX1 9 "KinLedger$Link" "child" "I", .fieldLink RX1 15 "KinLedger$Link" "column" "I", .fieldLink RX1 18 "KinLedger$Link" "parent" "I", .fieldLink RX1 21 "KinLedger$Link" "way" "I"] ++ wsX10)
def wsX1_refers : List Cond := .code yX1_refers cX1_refers 3 (some .boolean) :: ([.fieldLink RX1 9 "KinLedger$Link" "child" "I", .fieldLink RX1 15 "KinLedger$Link" "column" "I", .methodLink RX1 41 yX2_holds, .instanceMethod yX2_holds, .selects RX2 yX2_holds yX2_holds, .initialized RX2, .code yX2_holds cX2_holds 3 (some .boolean), .fieldLink RX2 9 "KinLedger$Rows" "tables" "[I", .methodLink RX1 28 yX2_at, .instanceMethod yX2_at, .selects RX2 yX2_at yX2_at, .code yX2_at cX2_at 3 (some .int), .fieldLink RX2 15 "KinLedger$Rows" "cells" "[I"] ++ wsX10 ++ wsX20)
def wsX2_find : List Cond := .code yX2_find cX2_find 4 (some .int) :: ([.fieldLink RX2 9 "KinLedger$Rows" "tables" "[I", .methodLink RX2 30 yX2_at, .instanceMethod yX2_at, .selects RX2 yX2_at yX2_at, .initialized RX2, .code yX2_at cX2_at 3 (some .int), .fieldLink RX2 15 "KinLedger$Rows" "cells" "[I"] ++ wsX20)
def wsX1_target : List Cond := .code yX1_target cX1_target 3 (some .int) :: ([.fieldLink RX1 18 "KinLedger$Link" "parent" "I", .fieldLink RX1 15 "KinLedger$Link" "column" "I", .methodLink RX1 24 yX1_refers, .instanceMethod yX1_refers, .selects RX1 yX1_refers yX1_refers, .initialized RX1, .code yX1_refers cX1_refers 3 (some .boolean), .fieldLink RX1 9 "KinLedger$Link" "child" "I", .methodLink RX1 41 yX2_holds, .instanceMethod yX2_holds, .selects RX2 yX2_holds yX2_holds, .initialized RX2, .code yX2_holds cX2_holds 3 (some .boolean), .fieldLink RX2 9 "KinLedger$Rows" "tables" "[I", .methodLink RX1 28 yX2_at, .instanceMethod yX2_at, .selects RX2 yX2_at yX2_at, .code yX2_at cX2_at 3 (some .int), .fieldLink RX2 15 "KinLedger$Rows" "cells" "[I", .methodLink RX1 34 yX2_find, .instanceMethod yX2_find, .selects RX2 yX2_find yX2_find, .code yX2_find cX2_find 4 (some .int), .methodLink RX2 30 yX2_at] ++ wsX10 ++ wsX20)
def wsX1_isBroken_r1 : List Cond := [Cond.methodLink RX1 24 yX1_refers, Cond.instanceMethod yX1_refers, Cond.selects RX1 yX1_refers yX1_refers, Cond.initialized RX1, Cond.code yX1_refers cX1_refers 3 (some .boolean), Cond.fieldLink RX1 9 "KinLedger$Link" "child" "I", Cond.fieldLink RX1 15 "KinLedger$Link" "column" "I", Cond.methodLink RX1 41 yX2_holds, Cond.instanceMethod yX2_holds, Cond.selects RX2 yX2_holds yX2_holds, Cond.initialized RX2, Cond.code yX2_holds cX2_holds 3 (some .boolean), Cond.fieldLink RX2 9 "KinLedger$Rows" "tables" "[I", Cond.methodLink RX1 28 yX2_at, Cond.instanceMethod yX2_at, Cond.selects RX2 yX2_at yX2_at, Cond.code yX2_at cX2_at 3 (some .int), Cond.fieldLink RX2 15 "KinLedger$Rows" "cells" "[I", Cond.methodLink RX1 37 yX1_target, Cond.instanceMethod yX1_target, Cond.selects RX1 yX1_target yX1_target, Cond.code yX1_target cX1_target 3 (some .int), Cond.fieldLink RX1 18 "KinLedger$Link" "parent" "I", Cond.methodLink RX1 34 yX2_find]
def wsX1_isBroken_r2 : List Cond := [Cond.instanceMethod yX2_find, Cond.selects RX2 yX2_find yX2_find, Cond.code yX2_find cX2_find 4 (some .int), Cond.methodLink RX2 30 yX2_at]
def wsX1_isBroken : List Cond := .code yX1_isBroken cX1_isBroken 3 (some .boolean) :: ((wsX1_isBroken_r1 ++ wsX1_isBroken_r2) ++ wsX10 ++ wsX20)
def wsJ7_fill_53178 : List Cond := .code yJ7_fill_53178 cJ7_fill_53178 4 none :: ([])
def wsX2_init : List Cond := .code yX2_init cX2_init 1 none :: ([.methodLink RX2 3 objectInit, .instanceMethod objectInit, .code objectInit ⟨#[0xb1]⟩ 1 none, .arrayClass .int, .fieldLink RX2 9 "KinLedger$Rows" "tables" "[I", .fieldLink RX2 15 "KinLedger$Rows" "cells" "[I", .methodLink RX2 18 yJ7_fill_53178, .static yJ7_fill_53178, .initialized RJ7, .code yJ7_fill_53178 cJ7_fill_53178 4 none] ++ wsX20)
def wsX2_become : List Cond := .code yX2_become cX2_become 2 none :: ([.fieldLink RX2 9 "KinLedger$Rows" "tables" "[I", .methodLink RX2 24 arraycopyName, .native arraycopyName, .static arraycopyName, .initialized "java/lang/System", .fieldLink RX2 15 "KinLedger$Rows" "cells" "[I"] ++ wsX20)
def wsX2_put : List Cond := .code yX2_put cX2_put 4 none :: ([.fieldLink RX2 15 "KinLedger$Rows" "cells" "[I"] ++ wsX20)
def wsX2_add : List Cond := .code yX2_add cX2_add 3 none :: ([.fieldLink RX2 9 "KinLedger$Rows" "tables" "[I"] ++ wsX20)
def wsX2_remove : List Cond := .code yX2_remove cX2_remove 2 none :: ([.fieldLink RX2 9 "KinLedger$Rows" "tables" "[I"] ++ wsX20)
def wsX2_freePlace : List Cond := .code yX2_freePlace cX2_freePlace 2 (some .int) :: ([.fieldLink RX2 9 "KinLedger$Rows" "tables" "[I"] ++ wsX20)
def wsX2_size : List Cond := .code yX2_size cX2_size 4 (some .int) :: ([.fieldLink RX2 9 "KinLedger$Rows" "tables" "[I"] ++ wsX20)
def wsX2_lesserKeys : List Cond := .code yX2_lesserKeys cX2_lesserKeys 5 (some .int) :: ([.fieldLink RX2 9 "KinLedger$Rows" "tables" "[I", .methodLink RX2 30 yX2_at, .instanceMethod yX2_at, .selects RX2 yX2_at yX2_at, .initialized RX2, .code yX2_at cX2_at 3 (some .int), .fieldLink RX2 15 "KinLedger$Rows" "cells" "[I"] ++ wsX20)
def wsX2_placeOfRank : List Cond := .code yX2_placeOfRank cX2_placeOfRank 4 (some .int) :: ([.fieldLink RX2 9 "KinLedger$Rows" "tables" "[I", .methodLink RX2 30 yX2_at, .instanceMethod yX2_at, .selects RX2 yX2_at yX2_at, .initialized RX2, .code yX2_at cX2_at 3 (some .int), .fieldLink RX2 15 "KinLedger$Rows" "cells" "[I", .methodLink RX2 34 yX2_lesserKeys, .instanceMethod yX2_lesserKeys, .selects RX2 yX2_lesserKeys yX2_lesserKeys, .code yX2_lesserKeys cX2_lesserKeys 5 (some .int)] ++ wsX20)
def wsX2_hasTwinBefore : List Cond := .code yX2_hasTwinBefore cX2_hasTwinBefore 4 (some .boolean) :: ([.fieldLink RX2 9 "KinLedger$Rows" "tables" "[I", .methodLink RX2 30 yX2_at, .instanceMethod yX2_at, .selects RX2 yX2_at yX2_at, .initialized RX2, .code yX2_at cX2_at 3 (some .int), .fieldLink RX2 15 "KinLedger$Rows" "cells" "[I"] ++ wsX20)
def wsX2_hasTwins : List Cond := .code yX2_hasTwins cX2_hasTwins 4 (some .boolean) :: ([.fieldLink RX2 9 "KinLedger$Rows" "tables" "[I", .methodLink RX2 30 yX2_at, .instanceMethod yX2_at, .selects RX2 yX2_at yX2_at, .initialized RX2, .code yX2_at cX2_at 3 (some .int), .fieldLink RX2 15 "KinLedger$Rows" "cells" "[I", .methodLink RX2 37 yX2_hasTwinBefore, .instanceMethod yX2_hasTwinBefore, .selects RX2 yX2_hasTwinBefore yX2_hasTwinBefore, .code yX2_hasTwinBefore cX2_hasTwinBefore 4 (some .boolean)] ++ wsX20)
def wsX3_init : List Cond := .code yX3_init cX3_init 3 none :: ([.methodLink RX3 1 objectInit, .instanceMethod objectInit, .code objectInit ⟨#[0xb1]⟩ 1 none, .fieldLink RX3 7 "KinLedger$Single" "table" "I", .fieldLink RX3 13 "KinLedger$Single" "column" "I"] ++ wsX30)
def wsX3_isBroken : List Cond := .code yX3_isBroken cX3_isBroken 2 (some .boolean) :: ([.fieldLink RX3 7 "KinLedger$Single" "table" "I", .fieldLink RX3 13 "KinLedger$Single" "column" "I", .methodLink RX3 16 yX2_hasTwins, .instanceMethod yX2_hasTwins, .selects RX2 yX2_hasTwins yX2_hasTwins, .initialized RX2, .code yX2_hasTwins cX2_hasTwins 4 (some .boolean), .fieldLink RX2 9 "KinLedger$Rows" "tables" "[I", .methodLink RX2 30 yX2_at, .instanceMethod yX2_at, .selects RX2 yX2_at yX2_at, .code yX2_at cX2_at 3 (some .int), .fieldLink RX2 15 "KinLedger$Rows" "cells" "[I", .methodLink RX2 37 yX2_hasTwinBefore, .instanceMethod yX2_hasTwinBefore, .selects RX2 yX2_hasTwinBefore yX2_hasTwinBefore, .code yX2_hasTwinBefore cX2_hasTwinBefore 4 (some .boolean)] ++ wsX30 ++ wsX20)
def wsX4_init_r1 : List Cond := [Cond.methodLink RX4 1 objectInit, Cond.instanceMethod objectInit, Cond.code objectInit ⟨#[0xb1]⟩ 1 none, Cond.arrayClass .int, Cond.fieldLink RX4 9 "KinLedger" "columnCounts" "[I", Cond.fieldLink RX4 13 "KinLedger" "tableCount" "I", Cond.classLink RX4 17 RX1, Cond.fieldLink RX4 19 "KinLedger" "links" "[LKinLedger$Link;", Cond.fieldLink RX4 23 "KinLedger" "linkCount" "I", Cond.classLink RX4 26 RX3, Cond.fieldLink RX4 28 "KinLedger" "singles" "[LKinLedger$Single;", Cond.fieldLink RX4 32 "KinLedger" "singleCount" "I", Cond.classLink RX4 35 RX0, Cond.fieldLink RX4 37 "KinLedger" "checks" "[LKinLedger$Check;", Cond.fieldLink RX4 41 "KinLedger" "checkCount" "I", Cond.fieldLink RX4 44 "KinLedger" "waiting" "[I", Cond.fieldLink RX4 47 "KinLedger" "waitingCount" "I", Cond.classLink RX4 50 RX2, Cond.instantiable RX2 2, Cond.initialized RX2, Cond.fieldLink RX4 53 "KinLedger" "rows" "LKinLedger$Rows;", Cond.fieldLink RX4 57 "KinLedger" "draft" "LKinLedger$Rows;", Cond.fieldLink RX4 60 "KinLedger" "remembered" "[LKinLedger$Rows;", Cond.fieldLink RX4 64 "KinLedger" "rememberedCount" "I"]
def wsX4_init_r2 : List Cond := [Cond.arrayClass .boolean, Cond.fieldLink RX4 67 "KinLedger" "going" "[Z", Cond.fieldLink RX4 71 "KinLedger" "latestReason" "I", Cond.methodLink RX4 52 yX2_init, Cond.instanceMethod yX2_init, Cond.code yX2_init cX2_init 1 none, Cond.methodLink RX2 3 objectInit, Cond.fieldLink RX2 9 "KinLedger$Rows" "tables" "[I", Cond.fieldLink RX2 15 "KinLedger$Rows" "cells" "[I", Cond.methodLink RX2 18 yJ7_fill_53178, Cond.static yJ7_fill_53178, Cond.initialized RJ7, Cond.code yJ7_fill_53178 cJ7_fill_53178 4 none]
def wsX4_init : List Cond := .code yX4_init cX4_init 2 none :: ((wsX4_init_r1 ++ wsX4_init_r2) ++ wsX40 ++ wsX20)
def wsX4_needArgument : List Cond := .code yX4_needArgument cX4_needArgument 1 none :: ([.classLink RX4 190 "java/lang/IllegalArgumentException", .initialized "java/lang/IllegalArgumentException"] ++ (vx_at0 RX4 192 "java/lang/IllegalArgumentException" ["java/lang/RuntimeException", "java/lang/Exception"]).filter goodWord)
def wsX4_needElement : List Cond := .code yX4_needElement cX4_needElement 1 none :: ([.classLink RX4 193 "java/util/NoSuchElementException", .initialized "java/util/NoSuchElementException"] ++ (vx_at0 RX4 195 "java/util/NoSuchElementException" ["java/lang/RuntimeException", "java/lang/Exception"]).filter goodWord)
def wsX4_table : List Cond := .code yX4_table cX4_table 2 (some .int) :: ([.fieldLink RX4 13 "KinLedger" "tableCount" "I", .fieldLink RX4 9 "KinLedger" "columnCounts" "[I", .methodLink RX4 74 yX4_needArgument, .static yX4_needArgument, .initialized RX4, .code yX4_needArgument cX4_needArgument 1 none, .classLink RX4 190 "java/lang/IllegalArgumentException", .initialized "java/lang/IllegalArgumentException", .methodLink RX4 78 yX4_needElement, .static yX4_needElement, .code yX4_needElement cX4_needElement 1 none, .classLink RX4 193 "java/util/NoSuchElementException", .initialized "java/util/NoSuchElementException"] ++ wsX40 ++ (vx_at0 RX4 192 "java/lang/IllegalArgumentException" ["java/lang/RuntimeException", "java/lang/Exception"]).filter goodWord ++ (vx_at0 RX4 195 "java/util/NoSuchElementException" ["java/lang/RuntimeException", "java/lang/Exception"]).filter goodWord)
def wsX4_isTable : List Cond := .code yX4_isTable cX4_isTable 2 (some .boolean) :: ([.fieldLink RX4 13 "KinLedger" "tableCount" "I"] ++ wsX40)
def wsX4_isColumn : List Cond := .code yX4_isColumn cX4_isColumn 3 (some .boolean) :: ([.fieldLink RX4 9 "KinLedger" "columnCounts" "[I", .methodLink RX4 85 yX4_isTable, .instanceMethod yX4_isTable, .selects RX4 yX4_isTable yX4_isTable, .initialized RX4, .code yX4_isTable cX4_isTable 2 (some .boolean), .fieldLink RX4 13 "KinLedger" "tableCount" "I"] ++ wsX40)
def wsX4_isCellColumn : List Cond := .code yX4_isCellColumn cX4_isCellColumn 3 (some .boolean) :: ([.methodLink RX4 140 yX4_isColumn, .instanceMethod yX4_isColumn, .selects RX4 yX4_isColumn yX4_isColumn, .initialized RX4, .code yX4_isColumn cX4_isColumn 3 (some .boolean), .fieldLink RX4 9 "KinLedger" "columnCounts" "[I", .methodLink RX4 85 yX4_isTable, .instanceMethod yX4_isTable, .selects RX4 yX4_isTable yX4_isTable, .code yX4_isTable cX4_isTable 2 (some .boolean), .fieldLink RX4 13 "KinLedger" "tableCount" "I"] ++ wsX40)
def wsX4_refuseIf : List Cond := .code yX4_refuseIf cX4_refuseIf 3 none :: ([.classLink RX4 196 "java/lang/IllegalStateException", .initialized "java/lang/IllegalStateException", .fieldLink RX4 71 "KinLedger" "latestReason" "I"] ++ wsX40 ++ (vx_at0 RX4 198 "java/lang/IllegalStateException" ["java/lang/RuntimeException", "java/lang/Exception"]).filter goodWord)
def wsX4_link_r1 : List Cond := [Cond.fieldLink RX4 23 "KinLedger" "linkCount" "I", Cond.classLink RX4 17 RX1, Cond.instantiable RX1 4, Cond.initialized RX1, Cond.fieldLink RX4 53 "KinLedger" "rows" "LKinLedger$Rows;", Cond.fieldLink RX4 19 "KinLedger" "links" "[LKinLedger$Link;", Cond.methodLink RX4 81 yX4_isCellColumn, Cond.instanceMethod yX4_isCellColumn, Cond.selects RX4 yX4_isCellColumn yX4_isCellColumn, Cond.initialized RX4, Cond.code yX4_isCellColumn cX4_isCellColumn 3 (some .boolean), Cond.methodLink RX4 140 yX4_isColumn, Cond.instanceMethod yX4_isColumn, Cond.selects RX4 yX4_isColumn yX4_isColumn, Cond.code yX4_isColumn cX4_isColumn 3 (some .boolean), Cond.fieldLink RX4 9 "KinLedger" "columnCounts" "[I", Cond.methodLink RX4 85 yX4_isTable, Cond.instanceMethod yX4_isTable, Cond.selects RX4 yX4_isTable yX4_isTable, Cond.code yX4_isTable cX4_isTable 2 (some .boolean), Cond.fieldLink RX4 13 "KinLedger" "tableCount" "I", Cond.methodLink RX4 74 yX4_needArgument, Cond.static yX4_needArgument, Cond.code yX4_needArgument cX4_needArgument 1 none]
def wsX4_link_r2 : List Cond := [Cond.classLink RX4 190 "java/lang/IllegalArgumentException", Cond.initialized "java/lang/IllegalArgumentException", Cond.methodLink RX4 78 yX4_needElement, Cond.static yX4_needElement, Cond.code yX4_needElement cX4_needElement 1 none, Cond.classLink RX4 193 "java/util/NoSuchElementException", Cond.initialized "java/util/NoSuchElementException", Cond.methodLink RX4 89 yX1_init, Cond.instanceMethod yX1_init, Cond.code yX1_init cX1_init 5 none, Cond.methodLink RX1 3 objectInit, Cond.instanceMethod objectInit, Cond.code objectInit ⟨#[0xb1]⟩ 1 none, Cond.fieldLink RX1 9 "KinLedger$Link" "child" "I", Cond.fieldLink RX1 15 "KinLedger$Link" "column" "I", Cond.fieldLink RX1 18 "KinLedger$Link" "parent" "I", Cond.fieldLink RX1 21 "KinLedger$Link" "way" "I", Cond.methodLink RX4 92 yX1_isBroken, Cond.instanceMethod yX1_isBroken, Cond.selects RX1 yX1_isBroken yX1_isBroken, Cond.code yX1_isBroken cX1_isBroken 3 (some .boolean), Cond.methodLink RX1 24 yX1_refers, Cond.instanceMethod yX1_refers, Cond.selects RX1 yX1_refers yX1_refers]
def wsX4_link_r3 : List Cond := [Cond.code yX1_refers cX1_refers 3 (some .boolean), Cond.methodLink RX1 41 yX2_holds, Cond.instanceMethod yX2_holds, Cond.selects RX2 yX2_holds yX2_holds, Cond.initialized RX2, Cond.code yX2_holds cX2_holds 3 (some .boolean), Cond.fieldLink RX2 9 "KinLedger$Rows" "tables" "[I", Cond.methodLink RX1 28 yX2_at, Cond.instanceMethod yX2_at, Cond.selects RX2 yX2_at yX2_at, Cond.code yX2_at cX2_at 3 (some .int), Cond.fieldLink RX2 15 "KinLedger$Rows" "cells" "[I", Cond.methodLink RX1 37 yX1_target, Cond.instanceMethod yX1_target, Cond.selects RX1 yX1_target yX1_target, Cond.code yX1_target cX1_target 3 (some .int), Cond.methodLink RX1 34 yX2_find, Cond.instanceMethod yX2_find, Cond.selects RX2 yX2_find yX2_find, Cond.code yX2_find cX2_find 4 (some .int), Cond.methodLink RX2 30 yX2_at, Cond.methodLink RX4 96 yX4_refuseIf, Cond.instanceMethod yX4_refuseIf, Cond.selects RX4 yX4_refuseIf yX4_refuseIf]
def wsX4_link_r4 : List Cond := [Cond.code yX4_refuseIf cX4_refuseIf 3 none, Cond.classLink RX4 196 "java/lang/IllegalStateException", Cond.initialized "java/lang/IllegalStateException", Cond.fieldLink RX4 71 "KinLedger" "latestReason" "I"]
def wsX4_link : List Cond := .code yX4_link cX4_link 6 (some .int) :: ((wsX4_link_r1 ++ (wsX4_link_r2 ++ (wsX4_link_r3 ++ wsX4_link_r4))) ++ wsX40 ++ wsX10 ++ wsX20 ++ (vx_at0 RX4 192 "java/lang/IllegalArgumentException" ["java/lang/RuntimeException", "java/lang/Exception"]).filter goodWord ++ (vx_at0 RX4 195 "java/util/NoSuchElementException" ["java/lang/RuntimeException", "java/lang/Exception"]).filter goodWord ++ (vx_at0 RX4 198 "java/lang/IllegalStateException" ["java/lang/RuntimeException", "java/lang/Exception"]).filter goodWord)
def wsX4_single_r1 : List Cond := [Cond.fieldLink RX4 32 "KinLedger" "singleCount" "I", Cond.classLink RX4 26 RX3, Cond.instantiable RX3 2, Cond.initialized RX3, Cond.fieldLink RX4 53 "KinLedger" "rows" "LKinLedger$Rows;", Cond.fieldLink RX4 28 "KinLedger" "singles" "[LKinLedger$Single;", Cond.methodLink RX4 81 yX4_isCellColumn, Cond.instanceMethod yX4_isCellColumn, Cond.selects RX4 yX4_isCellColumn yX4_isCellColumn, Cond.initialized RX4, Cond.code yX4_isCellColumn cX4_isCellColumn 3 (some .boolean), Cond.methodLink RX4 140 yX4_isColumn, Cond.instanceMethod yX4_isColumn, Cond.selects RX4 yX4_isColumn yX4_isColumn, Cond.code yX4_isColumn cX4_isColumn 3 (some .boolean), Cond.fieldLink RX4 9 "KinLedger" "columnCounts" "[I", Cond.methodLink RX4 85 yX4_isTable, Cond.instanceMethod yX4_isTable, Cond.selects RX4 yX4_isTable yX4_isTable, Cond.code yX4_isTable cX4_isTable 2 (some .boolean), Cond.fieldLink RX4 13 "KinLedger" "tableCount" "I", Cond.methodLink RX4 74 yX4_needArgument, Cond.static yX4_needArgument, Cond.code yX4_needArgument cX4_needArgument 1 none]
def wsX4_single_r2 : List Cond := [Cond.classLink RX4 190 "java/lang/IllegalArgumentException", Cond.initialized "java/lang/IllegalArgumentException", Cond.methodLink RX4 78 yX4_needElement, Cond.static yX4_needElement, Cond.code yX4_needElement cX4_needElement 1 none, Cond.classLink RX4 193 "java/util/NoSuchElementException", Cond.initialized "java/util/NoSuchElementException", Cond.methodLink RX4 100 yX3_init, Cond.instanceMethod yX3_init, Cond.code yX3_init cX3_init 3 none, Cond.methodLink RX3 1 objectInit, Cond.instanceMethod objectInit, Cond.code objectInit ⟨#[0xb1]⟩ 1 none, Cond.fieldLink RX3 7 "KinLedger$Single" "table" "I", Cond.fieldLink RX3 13 "KinLedger$Single" "column" "I", Cond.methodLink RX4 103 yX3_isBroken, Cond.instanceMethod yX3_isBroken, Cond.selects RX3 yX3_isBroken yX3_isBroken, Cond.code yX3_isBroken cX3_isBroken 2 (some .boolean), Cond.methodLink RX3 16 yX2_hasTwins, Cond.instanceMethod yX2_hasTwins, Cond.selects RX2 yX2_hasTwins yX2_hasTwins, Cond.initialized RX2, Cond.code yX2_hasTwins cX2_hasTwins 4 (some .boolean)]
def wsX4_single_r3 : List Cond := [Cond.fieldLink RX2 9 "KinLedger$Rows" "tables" "[I", Cond.methodLink RX2 30 yX2_at, Cond.instanceMethod yX2_at, Cond.selects RX2 yX2_at yX2_at, Cond.code yX2_at cX2_at 3 (some .int), Cond.fieldLink RX2 15 "KinLedger$Rows" "cells" "[I", Cond.methodLink RX2 37 yX2_hasTwinBefore, Cond.instanceMethod yX2_hasTwinBefore, Cond.selects RX2 yX2_hasTwinBefore yX2_hasTwinBefore, Cond.code yX2_hasTwinBefore cX2_hasTwinBefore 4 (some .boolean), Cond.methodLink RX4 96 yX4_refuseIf, Cond.instanceMethod yX4_refuseIf, Cond.selects RX4 yX4_refuseIf yX4_refuseIf, Cond.code yX4_refuseIf cX4_refuseIf 3 none, Cond.classLink RX4 196 "java/lang/IllegalStateException", Cond.initialized "java/lang/IllegalStateException", Cond.fieldLink RX4 71 "KinLedger" "latestReason" "I"]
def wsX4_single : List Cond := .code yX4_single cX4_single 4 (some .int) :: ((wsX4_single_r1 ++ (wsX4_single_r2 ++ wsX4_single_r3)) ++ wsX40 ++ wsX30 ++ wsX20 ++ (vx_at0 RX4 192 "java/lang/IllegalArgumentException" ["java/lang/RuntimeException", "java/lang/Exception"]).filter goodWord ++ (vx_at0 RX4 195 "java/util/NoSuchElementException" ["java/lang/RuntimeException", "java/lang/Exception"]).filter goodWord ++ (vx_at0 RX4 198 "java/lang/IllegalStateException" ["java/lang/RuntimeException", "java/lang/Exception"]).filter goodWord)
def wsX4_word : List Cond := .code yX4_word cX4_word 2 (some .int) :: ([.fieldLink RX4 47 "KinLedger" "waitingCount" "I", .fieldLink RX4 44 "KinLedger" "waiting" "[I", .methodLink RX4 104 yX0_isWord, .static yX0_isWord, .initialized RX0, .code yX0_isWord cX0_isWord 1 (some .boolean), .methodLink RX4 74 yX4_needArgument, .static yX4_needArgument, .initialized RX4, .code yX4_needArgument cX4_needArgument 1 none, .classLink RX4 190 "java/lang/IllegalArgumentException", .initialized "java/lang/IllegalArgumentException", .methodLink RX4 78 yX4_needElement, .static yX4_needElement, .code yX4_needElement cX4_needElement 1 none, .classLink RX4 193 "java/util/NoSuchElementException", .initialized "java/util/NoSuchElementException"] ++ wsX40 ++ (vx_at0 RX4 192 "java/lang/IllegalArgumentException" ["java/lang/RuntimeException", "java/lang/Exception"]).filter goodWord ++ (vx_at0 RX4 195 "java/util/NoSuchElementException" ["java/lang/RuntimeException", "java/lang/Exception"]).filter goodWord)
def wsJ7_copyOf_59c91 : List Cond := .code yJ7_copyOf_59c91 cJ7_copyOf_59c91 3 (some (.array .int)) :: ([.methodLink RJ7 316 ⟨"[I", "clone", "()Ljava/lang/Object;"⟩, .sameMethod "[I" "java/lang/Object" "clone" "()Ljava/lang/Object;", .native ⟨"java/lang/Object", "clone", "()Ljava/lang/Object;"⟩, .instanceMethod ⟨"java/lang/Object", "clone", "()Ljava/lang/Object;"⟩, .selects "[I" ⟨"[I", "clone", "()Ljava/lang/Object;"⟩ ⟨"java/lang/Object", "clone", "()Ljava/lang/Object;"⟩, .classLink RJ7 317 "[I", .arrayClass .int, .methodLink RJ7 304 Lib.Math.min.name, .static Lib.Math.min.name, .initialized "java/lang/Math", .code Lib.Math.min.name Lib.Math.min.code 2 (some .int), .methodLink RJ7 150 arraycopyName, .native arraycopyName, .static arraycopyName, .initialized "java/lang/System"])
def wsX4_check_r1 : List Cond := [Cond.fieldLink RX4 44 "KinLedger" "waiting" "[I", Cond.fieldLink RX4 47 "KinLedger" "waitingCount" "I", Cond.fieldLink RX4 9 "KinLedger" "columnCounts" "[I", Cond.fieldLink RX4 41 "KinLedger" "checkCount" "I", Cond.classLink RX4 35 RX0, Cond.instantiable RX0 3, Cond.initialized RX0, Cond.fieldLink RX4 53 "KinLedger" "rows" "LKinLedger$Rows;", Cond.fieldLink RX4 37 "KinLedger" "checks" "[LKinLedger$Check;", Cond.methodLink RX4 85 yX4_isTable, Cond.instanceMethod yX4_isTable, Cond.selects RX4 yX4_isTable yX4_isTable, Cond.initialized RX4, Cond.code yX4_isTable cX4_isTable 2 (some .boolean), Cond.fieldLink RX4 13 "KinLedger" "tableCount" "I", Cond.methodLink RX4 74 yX4_needArgument, Cond.static yX4_needArgument, Cond.code yX4_needArgument cX4_needArgument 1 none, Cond.classLink RX4 190 "java/lang/IllegalArgumentException", Cond.initialized "java/lang/IllegalArgumentException", Cond.methodLink RX4 107 yJ7_copyOf_59c91, Cond.static yJ7_copyOf_59c91, Cond.initialized RJ7, Cond.code yJ7_copyOf_59c91 cJ7_copyOf_59c91 3 (some (.array .int))]
def wsX4_check_r2 : List Cond := [Cond.methodLink RJ7 316 ⟨"[I", "clone", "()Ljava/lang/Object;"⟩, Cond.sameMethod "[I" "java/lang/Object" "clone" "()Ljava/lang/Object;", Cond.native ⟨"java/lang/Object", "clone", "()Ljava/lang/Object;"⟩, Cond.instanceMethod ⟨"java/lang/Object", "clone", "()Ljava/lang/Object;"⟩, Cond.selects "[I" ⟨"[I", "clone", "()Ljava/lang/Object;"⟩ ⟨"java/lang/Object", "clone", "()Ljava/lang/Object;"⟩, Cond.classLink RJ7 317 "[I", Cond.arrayClass .int, Cond.methodLink RJ7 304 Lib.Math.min.name, Cond.static Lib.Math.min.name, Cond.initialized "java/lang/Math", Cond.code Lib.Math.min.name Lib.Math.min.code 2 (some .int), Cond.methodLink RJ7 150 arraycopyName, Cond.native arraycopyName, Cond.static arraycopyName, Cond.initialized "java/lang/System", Cond.methodLink RX4 113 yX0_areRight, Cond.static yX0_areRight, Cond.code yX0_areRight cX0_areRight 6 (some .boolean), Cond.methodLink RX0 22 yX0_taken, Cond.static yX0_taken, Cond.code yX0_taken cX0_taken 1 (some .int), Cond.methodLink RX4 78 yX4_needElement, Cond.static yX4_needElement, Cond.code yX4_needElement cX4_needElement 1 none]
def wsX4_check_r3 : List Cond := [Cond.classLink RX4 193 "java/util/NoSuchElementException", Cond.initialized "java/util/NoSuchElementException", Cond.methodLink RX4 117 yX0_init, Cond.instanceMethod yX0_init, Cond.code yX0_init cX0_init 3 none, Cond.methodLink RX0 3 objectInit, Cond.instanceMethod objectInit, Cond.code objectInit ⟨#[0xb1]⟩ 1 none, Cond.fieldLink RX0 9 "KinLedger$Check" "table" "I", Cond.fieldLink RX0 15 "KinLedger$Check" "words" "[I", Cond.fieldLink RX0 19 "KinLedger$Check" "pile" "[I", Cond.methodLink RX4 120 yX0_isBroken, Cond.instanceMethod yX0_isBroken, Cond.selects RX0 yX0_isBroken yX0_isBroken, Cond.code yX0_isBroken cX0_isBroken 3 (some .boolean), Cond.methodLink RX0 26 yX2_holds, Cond.instanceMethod yX2_holds, Cond.selects RX2 yX2_holds yX2_holds, Cond.initialized RX2, Cond.code yX2_holds cX2_holds 3 (some .boolean), Cond.fieldLink RX2 9 "KinLedger$Rows" "tables" "[I", Cond.methodLink RX0 32 yX0_result, Cond.instanceMethod yX0_result, Cond.selects RX0 yX0_result yX0_result]
def wsX4_check_r4 : List Cond := [Cond.code yX0_result cX0_result 6 (some .int), Cond.methodLink RX0 36 yX0_laid, Cond.static yX0_laid, Cond.code yX0_laid cX0_laid 3 (some .int), Cond.methodLink RX0 44 yX2_at, Cond.instanceMethod yX2_at, Cond.selects RX2 yX2_at yX2_at, Cond.code yX2_at cX2_at 3 (some .int), Cond.fieldLink RX2 15 "KinLedger$Rows" "cells" "[I", Cond.methodLink RX0 40 yX0_worked, Cond.instanceMethod yX0_worked, Cond.selects RX0 yX0_worked yX0_worked, Cond.code yX0_worked cX0_worked 5 (some .int), Cond.methodLink RX4 96 yX4_refuseIf, Cond.instanceMethod yX4_refuseIf, Cond.selects RX4 yX4_refuseIf yX4_refuseIf, Cond.code yX4_refuseIf cX4_refuseIf 3 none, Cond.classLink RX4 196 "java/lang/IllegalStateException", Cond.initialized "java/lang/IllegalStateException", Cond.fieldLink RX4 71 "KinLedger" "latestReason" "I"]
def wsX4_check : List Cond := .code yX4_check cX4_check 4 (some .int) :: ((wsX4_check_r1 ++ (wsX4_check_r2 ++ (wsX4_check_r3 ++ wsX4_check_r4))) ++ wsX40 ++ wsX00 ++ wsX20 ++ (vx_at0 RX4 192 "java/lang/IllegalArgumentException" ["java/lang/RuntimeException", "java/lang/Exception"]).filter goodWord ++ (vx_at0 RX4 195 "java/util/NoSuchElementException" ["java/lang/RuntimeException", "java/lang/Exception"]).filter goodWord ++ (vx_at0 RX4 198 "java/lang/IllegalStateException" ["java/lang/RuntimeException", "java/lang/Exception"]).filter goodWord)
def wsX4_whyBroken_r1 : List Cond := [Cond.fieldLink RX4 13 "KinLedger" "tableCount" "I", Cond.fieldLink RX4 32 "KinLedger" "singleCount" "I", Cond.fieldLink RX4 28 "KinLedger" "singles" "[LKinLedger$Single;", Cond.fieldLink RX4 23 "KinLedger" "linkCount" "I", Cond.fieldLink RX4 19 "KinLedger" "links" "[LKinLedger$Link;", Cond.fieldLink RX4 41 "KinLedger" "checkCount" "I", Cond.fieldLink RX4 37 "KinLedger" "checks" "[LKinLedger$Check;", Cond.methodLink RX4 199 yX2_hasTwins, Cond.instanceMethod yX2_hasTwins, Cond.selects RX2 yX2_hasTwins yX2_hasTwins, Cond.initialized RX2, Cond.code yX2_hasTwins cX2_hasTwins 4 (some .boolean), Cond.fieldLink RX2 9 "KinLedger$Rows" "tables" "[I", Cond.methodLink RX2 30 yX2_at, Cond.instanceMethod yX2_at, Cond.selects RX2 yX2_at yX2_at, Cond.code yX2_at cX2_at 3 (some .int), Cond.fieldLink RX2 15 "KinLedger$Rows" "cells" "[I", Cond.methodLink RX2 37 yX2_hasTwinBefore, Cond.instanceMethod yX2_hasTwinBefore, Cond.selects RX2 yX2_hasTwinBefore yX2_hasTwinBefore, Cond.code yX2_hasTwinBefore cX2_hasTwinBefore 4 (some .boolean), Cond.methodLink RX4 103 yX3_isBroken, Cond.instanceMethod yX3_isBroken]
def wsX4_whyBroken_r2 : List Cond := [Cond.selects RX3 yX3_isBroken yX3_isBroken, Cond.initialized RX3, Cond.code yX3_isBroken cX3_isBroken 2 (some .boolean), Cond.fieldLink RX3 7 "KinLedger$Single" "table" "I", Cond.fieldLink RX3 13 "KinLedger$Single" "column" "I", Cond.methodLink RX3 16 yX2_hasTwins, Cond.methodLink RX4 92 yX1_isBroken, Cond.instanceMethod yX1_isBroken, Cond.selects RX1 yX1_isBroken yX1_isBroken, Cond.initialized RX1, Cond.code yX1_isBroken cX1_isBroken 3 (some .boolean), Cond.methodLink RX1 24 yX1_refers, Cond.instanceMethod yX1_refers, Cond.selects RX1 yX1_refers yX1_refers, Cond.code yX1_refers cX1_refers 3 (some .boolean), Cond.fieldLink RX1 9 "KinLedger$Link" "child" "I", Cond.fieldLink RX1 15 "KinLedger$Link" "column" "I", Cond.methodLink RX1 41 yX2_holds, Cond.instanceMethod yX2_holds, Cond.selects RX2 yX2_holds yX2_holds, Cond.code yX2_holds cX2_holds 3 (some .boolean), Cond.methodLink RX1 28 yX2_at, Cond.methodLink RX1 37 yX1_target, Cond.instanceMethod yX1_target]
def wsX4_whyBroken_r3 : List Cond := [Cond.selects RX1 yX1_target yX1_target, Cond.code yX1_target cX1_target 3 (some .int), Cond.fieldLink RX1 18 "KinLedger$Link" "parent" "I", Cond.methodLink RX1 34 yX2_find, Cond.instanceMethod yX2_find, Cond.selects RX2 yX2_find yX2_find, Cond.code yX2_find cX2_find 4 (some .int), Cond.methodLink RX4 120 yX0_isBroken, Cond.instanceMethod yX0_isBroken, Cond.selects RX0 yX0_isBroken yX0_isBroken, Cond.initialized RX0, Cond.code yX0_isBroken cX0_isBroken 3 (some .boolean), Cond.fieldLink RX0 9 "KinLedger$Check" "table" "I", Cond.methodLink RX0 26 yX2_holds, Cond.methodLink RX0 32 yX0_result, Cond.instanceMethod yX0_result, Cond.selects RX0 yX0_result yX0_result, Cond.code yX0_result cX0_result 6 (some .int), Cond.fieldLink RX0 15 "KinLedger$Check" "words" "[I", Cond.fieldLink RX0 19 "KinLedger$Check" "pile" "[I", Cond.methodLink RX0 22 yX0_taken, Cond.static yX0_taken, Cond.code yX0_taken cX0_taken 1 (some .int), Cond.methodLink RX0 36 yX0_laid]
def wsX4_whyBroken_r4 : List Cond := [Cond.static yX0_laid, Cond.code yX0_laid cX0_laid 3 (some .int), Cond.methodLink RX0 44 yX2_at, Cond.methodLink RX0 40 yX0_worked, Cond.instanceMethod yX0_worked, Cond.selects RX0 yX0_worked yX0_worked, Cond.code yX0_worked cX0_worked 5 (some .int)]
def wsX4_whyBroken : List Cond := .code yX4_whyBroken cX4_whyBroken 3 (some .int) :: ((wsX4_whyBroken_r1 ++ (wsX4_whyBroken_r2 ++ (wsX4_whyBroken_r3 ++ wsX4_whyBroken_r4))) ++ wsX40 ++ wsX20 ++ wsX30 ++ wsX10 ++ wsX00)
def wsX4_settle_r1 : List Cond := [Cond.fieldLink RX4 57 "KinLedger" "draft" "LKinLedger$Rows;", Cond.fieldLink RX4 53 "KinLedger" "rows" "LKinLedger$Rows;", Cond.methodLink RX4 173 yX4_whyBroken, Cond.instanceMethod yX4_whyBroken, Cond.selects RX4 yX4_whyBroken yX4_whyBroken, Cond.initialized RX4, Cond.code yX4_whyBroken cX4_whyBroken 3 (some .int), Cond.fieldLink RX4 13 "KinLedger" "tableCount" "I", Cond.fieldLink RX4 32 "KinLedger" "singleCount" "I", Cond.fieldLink RX4 28 "KinLedger" "singles" "[LKinLedger$Single;", Cond.fieldLink RX4 23 "KinLedger" "linkCount" "I", Cond.fieldLink RX4 19 "KinLedger" "links" "[LKinLedger$Link;", Cond.fieldLink RX4 41 "KinLedger" "checkCount" "I", Cond.fieldLink RX4 37 "KinLedger" "checks" "[LKinLedger$Check;", Cond.methodLink RX4 199 yX2_hasTwins, Cond.instanceMethod yX2_hasTwins, Cond.selects RX2 yX2_hasTwins yX2_hasTwins, Cond.initialized RX2, Cond.code yX2_hasTwins cX2_hasTwins 4 (some .boolean), Cond.fieldLink RX2 9 "KinLedger$Rows" "tables" "[I", Cond.methodLink RX2 30 yX2_at, Cond.instanceMethod yX2_at, Cond.selects RX2 yX2_at yX2_at, Cond.code yX2_at cX2_at 3 (some .int)]
def wsX4_settle_r2 : List Cond := [Cond.fieldLink RX2 15 "KinLedger$Rows" "cells" "[I", Cond.methodLink RX2 37 yX2_hasTwinBefore, Cond.instanceMethod yX2_hasTwinBefore, Cond.selects RX2 yX2_hasTwinBefore yX2_hasTwinBefore, Cond.code yX2_hasTwinBefore cX2_hasTwinBefore 4 (some .boolean), Cond.methodLink RX4 103 yX3_isBroken, Cond.instanceMethod yX3_isBroken, Cond.selects RX3 yX3_isBroken yX3_isBroken, Cond.initialized RX3, Cond.code yX3_isBroken cX3_isBroken 2 (some .boolean), Cond.fieldLink RX3 7 "KinLedger$Single" "table" "I", Cond.fieldLink RX3 13 "KinLedger$Single" "column" "I", Cond.methodLink RX3 16 yX2_hasTwins, Cond.methodLink RX4 92 yX1_isBroken, Cond.instanceMethod yX1_isBroken, Cond.selects RX1 yX1_isBroken yX1_isBroken, Cond.initialized RX1, Cond.code yX1_isBroken cX1_isBroken 3 (some .boolean), Cond.methodLink RX1 24 yX1_refers, Cond.instanceMethod yX1_refers, Cond.selects RX1 yX1_refers yX1_refers, Cond.code yX1_refers cX1_refers 3 (some .boolean), Cond.fieldLink RX1 9 "KinLedger$Link" "child" "I", Cond.fieldLink RX1 15 "KinLedger$Link" "column" "I"]
def wsX4_settle_r3 : List Cond := [Cond.methodLink RX1 41 yX2_holds, Cond.instanceMethod yX2_holds, Cond.selects RX2 yX2_holds yX2_holds, Cond.code yX2_holds cX2_holds 3 (some .boolean), Cond.methodLink RX1 28 yX2_at, Cond.methodLink RX1 37 yX1_target, Cond.instanceMethod yX1_target, Cond.selects RX1 yX1_target yX1_target, Cond.code yX1_target cX1_target 3 (some .int), Cond.fieldLink RX1 18 "KinLedger$Link" "parent" "I", Cond.methodLink RX1 34 yX2_find, Cond.instanceMethod yX2_find, Cond.selects RX2 yX2_find yX2_find, Cond.code yX2_find cX2_find 4 (some .int), Cond.methodLink RX4 120 yX0_isBroken, Cond.instanceMethod yX0_isBroken, Cond.selects RX0 yX0_isBroken yX0_isBroken, Cond.initialized RX0, Cond.code yX0_isBroken cX0_isBroken 3 (some .boolean), Cond.fieldLink RX0 9 "KinLedger$Check" "table" "I", Cond.methodLink RX0 26 yX2_holds, Cond.methodLink RX0 32 yX0_result, Cond.instanceMethod yX0_result, Cond.selects RX0 yX0_result yX0_result]
def wsX4_settle_r4 : List Cond := [Cond.code yX0_result cX0_result 6 (some .int), Cond.fieldLink RX0 15 "KinLedger$Check" "words" "[I", Cond.fieldLink RX0 19 "KinLedger$Check" "pile" "[I", Cond.methodLink RX0 22 yX0_taken, Cond.static yX0_taken, Cond.code yX0_taken cX0_taken 1 (some .int), Cond.methodLink RX0 36 yX0_laid, Cond.static yX0_laid, Cond.code yX0_laid cX0_laid 3 (some .int), Cond.methodLink RX0 44 yX2_at, Cond.methodLink RX0 40 yX0_worked, Cond.instanceMethod yX0_worked, Cond.selects RX0 yX0_worked yX0_worked, Cond.code yX0_worked cX0_worked 5 (some .int), Cond.methodLink RX4 96 yX4_refuseIf, Cond.instanceMethod yX4_refuseIf, Cond.selects RX4 yX4_refuseIf yX4_refuseIf, Cond.code yX4_refuseIf cX4_refuseIf 3 none, Cond.classLink RX4 196 "java/lang/IllegalStateException", Cond.initialized "java/lang/IllegalStateException", Cond.fieldLink RX4 71 "KinLedger" "latestReason" "I", Cond.methodLink RX4 125 yX2_become, Cond.instanceMethod yX2_become, Cond.selects RX2 yX2_become yX2_become]
def wsX4_settle_r5 : List Cond := [Cond.code yX2_become cX2_become 2 none, Cond.methodLink RX2 24 arraycopyName, Cond.native arraycopyName, Cond.static arraycopyName, Cond.initialized "java/lang/System"]
def wsX4_settle : List Cond := .code yX4_settle cX4_settle 3 none :: ((wsX4_settle_r1 ++ (wsX4_settle_r2 ++ (wsX4_settle_r3 ++ (wsX4_settle_r4 ++ wsX4_settle_r5)))) ++ wsX40 ++ wsX20 ++ wsX30 ++ wsX10 ++ wsX00 ++ (vx_at0 RX4 198 "java/lang/IllegalStateException" ["java/lang/RuntimeException", "java/lang/Exception"]).filter goodWord)
def wsX4_insert_r1 : List Cond := [Cond.fieldLink RX4 53 "KinLedger" "rows" "LKinLedger$Rows;", Cond.fieldLink RX4 57 "KinLedger" "draft" "LKinLedger$Rows;", Cond.methodLink RX4 85 yX4_isTable, Cond.instanceMethod yX4_isTable, Cond.selects RX4 yX4_isTable yX4_isTable, Cond.initialized RX4, Cond.code yX4_isTable cX4_isTable 2 (some .boolean), Cond.fieldLink RX4 13 "KinLedger" "tableCount" "I", Cond.methodLink RX4 74 yX4_needArgument, Cond.static yX4_needArgument, Cond.code yX4_needArgument cX4_needArgument 1 none, Cond.classLink RX4 190 "java/lang/IllegalArgumentException", Cond.initialized "java/lang/IllegalArgumentException", Cond.methodLink RX4 121 yX2_freePlace, Cond.instanceMethod yX2_freePlace, Cond.selects RX2 yX2_freePlace yX2_freePlace, Cond.initialized RX2, Cond.code yX2_freePlace cX2_freePlace 2 (some .int), Cond.fieldLink RX2 9 "KinLedger$Rows" "tables" "[I", Cond.methodLink RX4 78 yX4_needElement, Cond.static yX4_needElement, Cond.code yX4_needElement cX4_needElement 1 none, Cond.classLink RX4 193 "java/util/NoSuchElementException", Cond.initialized "java/util/NoSuchElementException"]
def wsX4_insert_r2 : List Cond := [Cond.methodLink RX4 125 yX2_become, Cond.instanceMethod yX2_become, Cond.selects RX2 yX2_become yX2_become, Cond.code yX2_become cX2_become 2 none, Cond.methodLink RX2 24 arraycopyName, Cond.native arraycopyName, Cond.static arraycopyName, Cond.initialized "java/lang/System", Cond.fieldLink RX2 15 "KinLedger$Rows" "cells" "[I", Cond.methodLink RX4 129 yX2_add, Cond.instanceMethod yX2_add, Cond.selects RX2 yX2_add yX2_add, Cond.code yX2_add cX2_add 3 none, Cond.methodLink RX4 132 yX2_put, Cond.instanceMethod yX2_put, Cond.selects RX2 yX2_put yX2_put, Cond.code yX2_put cX2_put 4 none, Cond.methodLink RX4 136 yX4_settle, Cond.instanceMethod yX4_settle, Cond.selects RX4 yX4_settle yX4_settle, Cond.code yX4_settle cX4_settle 3 none, Cond.methodLink RX4 173 yX4_whyBroken, Cond.instanceMethod yX4_whyBroken, Cond.selects RX4 yX4_whyBroken yX4_whyBroken]
def wsX4_insert_r3 : List Cond := [Cond.code yX4_whyBroken cX4_whyBroken 3 (some .int), Cond.fieldLink RX4 32 "KinLedger" "singleCount" "I", Cond.fieldLink RX4 28 "KinLedger" "singles" "[LKinLedger$Single;", Cond.fieldLink RX4 23 "KinLedger" "linkCount" "I", Cond.fieldLink RX4 19 "KinLedger" "links" "[LKinLedger$Link;", Cond.fieldLink RX4 41 "KinLedger" "checkCount" "I", Cond.fieldLink RX4 37 "KinLedger" "checks" "[LKinLedger$Check;", Cond.methodLink RX4 199 yX2_hasTwins, Cond.instanceMethod yX2_hasTwins, Cond.selects RX2 yX2_hasTwins yX2_hasTwins, Cond.code yX2_hasTwins cX2_hasTwins 4 (some .boolean), Cond.methodLink RX2 30 yX2_at, Cond.instanceMethod yX2_at, Cond.selects RX2 yX2_at yX2_at, Cond.code yX2_at cX2_at 3 (some .int), Cond.methodLink RX2 37 yX2_hasTwinBefore, Cond.instanceMethod yX2_hasTwinBefore, Cond.selects RX2 yX2_hasTwinBefore yX2_hasTwinBefore, Cond.code yX2_hasTwinBefore cX2_hasTwinBefore 4 (some .boolean), Cond.methodLink RX4 103 yX3_isBroken, Cond.instanceMethod yX3_isBroken, Cond.selects RX3 yX3_isBroken yX3_isBroken, Cond.initialized RX3, Cond.code yX3_isBroken cX3_isBroken 2 (some .boolean)]
def wsX4_insert_r4 : List Cond := [Cond.fieldLink RX3 7 "KinLedger$Single" "table" "I", Cond.fieldLink RX3 13 "KinLedger$Single" "column" "I", Cond.methodLink RX3 16 yX2_hasTwins, Cond.methodLink RX4 92 yX1_isBroken, Cond.instanceMethod yX1_isBroken, Cond.selects RX1 yX1_isBroken yX1_isBroken, Cond.initialized RX1, Cond.code yX1_isBroken cX1_isBroken 3 (some .boolean), Cond.methodLink RX1 24 yX1_refers, Cond.instanceMethod yX1_refers, Cond.selects RX1 yX1_refers yX1_refers, Cond.code yX1_refers cX1_refers 3 (some .boolean), Cond.fieldLink RX1 9 "KinLedger$Link" "child" "I", Cond.fieldLink RX1 15 "KinLedger$Link" "column" "I", Cond.methodLink RX1 41 yX2_holds, Cond.instanceMethod yX2_holds, Cond.selects RX2 yX2_holds yX2_holds, Cond.code yX2_holds cX2_holds 3 (some .boolean), Cond.methodLink RX1 28 yX2_at, Cond.methodLink RX1 37 yX1_target, Cond.instanceMethod yX1_target, Cond.selects RX1 yX1_target yX1_target, Cond.code yX1_target cX1_target 3 (some .int), Cond.fieldLink RX1 18 "KinLedger$Link" "parent" "I"]
def wsX4_insert_r5 : List Cond := [Cond.methodLink RX1 34 yX2_find, Cond.instanceMethod yX2_find, Cond.selects RX2 yX2_find yX2_find, Cond.code yX2_find cX2_find 4 (some .int), Cond.methodLink RX4 120 yX0_isBroken, Cond.instanceMethod yX0_isBroken, Cond.selects RX0 yX0_isBroken yX0_isBroken, Cond.initialized RX0, Cond.code yX0_isBroken cX0_isBroken 3 (some .boolean), Cond.fieldLink RX0 9 "KinLedger$Check" "table" "I", Cond.methodLink RX0 26 yX2_holds, Cond.methodLink RX0 32 yX0_result, Cond.instanceMethod yX0_result, Cond.selects RX0 yX0_result yX0_result, Cond.code yX0_result cX0_result 6 (some .int), Cond.fieldLink RX0 15 "KinLedger$Check" "words" "[I", Cond.fieldLink RX0 19 "KinLedger$Check" "pile" "[I", Cond.methodLink RX0 22 yX0_taken, Cond.static yX0_taken, Cond.code yX0_taken cX0_taken 1 (some .int), Cond.methodLink RX0 36 yX0_laid, Cond.static yX0_laid, Cond.code yX0_laid cX0_laid 3 (some .int), Cond.methodLink RX0 44 yX2_at]
def wsX4_insert_r6 : List Cond := [Cond.methodLink RX0 40 yX0_worked, Cond.instanceMethod yX0_worked, Cond.selects RX0 yX0_worked yX0_worked, Cond.code yX0_worked cX0_worked 5 (some .int), Cond.methodLink RX4 96 yX4_refuseIf, Cond.instanceMethod yX4_refuseIf, Cond.selects RX4 yX4_refuseIf yX4_refuseIf, Cond.code yX4_refuseIf cX4_refuseIf 3 none, Cond.classLink RX4 196 "java/lang/IllegalStateException", Cond.initialized "java/lang/IllegalStateException", Cond.fieldLink RX4 71 "KinLedger" "latestReason" "I"]
def wsX4_insert : List Cond := .code yX4_insert cX4_insert 7 none :: ((wsX4_insert_r1 ++ (wsX4_insert_r2 ++ (wsX4_insert_r3 ++ (wsX4_insert_r4 ++ (wsX4_insert_r5 ++ wsX4_insert_r6))))) ++ wsX40 ++ wsX20 ++ wsX30 ++ wsX10 ++ wsX00 ++ (vx_at0 RX4 192 "java/lang/IllegalArgumentException" ["java/lang/RuntimeException", "java/lang/Exception"]).filter goodWord ++ (vx_at0 RX4 195 "java/util/NoSuchElementException" ["java/lang/RuntimeException", "java/lang/Exception"]).filter goodWord ++ (vx_at0 RX4 198 "java/lang/IllegalStateException" ["java/lang/RuntimeException", "java/lang/Exception"]).filter goodWord)
def wsX4_markGoing : List Cond := .code yX4_markGoing cX4_markGoing 5 none :: ([.fieldLink RX4 67 "KinLedger" "going" "[Z", .fieldLink RX4 53 "KinLedger" "rows" "LKinLedger$Rows;", .methodLink RX4 166 yX2_holds, .instanceMethod yX2_holds, .selects RX2 yX2_holds yX2_holds, .initialized RX2, .code yX2_holds cX2_holds 3 (some .boolean), .fieldLink RX2 9 "KinLedger$Rows" "tables" "[I", .methodLink RX4 160 yX2_at, .instanceMethod yX2_at, .selects RX2 yX2_at yX2_at, .code yX2_at cX2_at 3 (some .int), .fieldLink RX2 15 "KinLedger$Rows" "cells" "[I"] ++ wsX40 ++ wsX20)
def wsX4_losesTarget_r1 : List Cond := [Cond.fieldLink RX4 53 "KinLedger" "rows" "LKinLedger$Rows;", Cond.fieldLink RX4 67 "KinLedger" "going" "[Z", Cond.methodLink RX4 186 yX1_target, Cond.instanceMethod yX1_target, Cond.selects RX1 yX1_target yX1_target, Cond.initialized RX1, Cond.code yX1_target cX1_target 3 (some .int), Cond.fieldLink RX1 18 "KinLedger$Link" "parent" "I", Cond.fieldLink RX1 15 "KinLedger$Link" "column" "I", Cond.methodLink RX1 24 yX1_refers, Cond.instanceMethod yX1_refers, Cond.selects RX1 yX1_refers yX1_refers, Cond.code yX1_refers cX1_refers 3 (some .boolean), Cond.fieldLink RX1 9 "KinLedger$Link" "child" "I", Cond.methodLink RX1 41 yX2_holds, Cond.instanceMethod yX2_holds, Cond.selects RX2 yX2_holds yX2_holds, Cond.initialized RX2, Cond.code yX2_holds cX2_holds 3 (some .boolean), Cond.fieldLink RX2 9 "KinLedger$Rows" "tables" "[I", Cond.methodLink RX1 28 yX2_at, Cond.instanceMethod yX2_at, Cond.selects RX2 yX2_at yX2_at, Cond.code yX2_at cX2_at 3 (some .int)]
def wsX4_losesTarget_r2 : List Cond := [Cond.fieldLink RX2 15 "KinLedger$Rows" "cells" "[I", Cond.methodLink RX1 34 yX2_find, Cond.instanceMethod yX2_find, Cond.selects RX2 yX2_find yX2_find, Cond.code yX2_find cX2_find 4 (some .int), Cond.methodLink RX2 30 yX2_at]
def wsX4_losesTarget : List Cond := .code yX4_losesTarget cX4_losesTarget 4 (some .boolean) :: ((wsX4_losesTarget_r1 ++ wsX4_losesTarget_r2) ++ wsX40 ++ wsX10 ++ wsX20)
def wsX4_spreadGoing_r1 : List Cond := [Cond.fieldLink RX4 23 "KinLedger" "linkCount" "I", Cond.fieldLink RX4 19 "KinLedger" "links" "[LKinLedger$Link;", Cond.fieldLink RX4 202 "KinLedger$Link" "way" "I", Cond.fieldLink RX4 67 "KinLedger" "going" "[Z", Cond.methodLink RX4 205 yX4_losesTarget, Cond.instanceMethod yX4_losesTarget, Cond.selects RX4 yX4_losesTarget yX4_losesTarget, Cond.initialized RX4, Cond.code yX4_losesTarget cX4_losesTarget 4 (some .boolean), Cond.fieldLink RX4 53 "KinLedger" "rows" "LKinLedger$Rows;", Cond.methodLink RX4 186 yX1_target, Cond.instanceMethod yX1_target, Cond.selects RX1 yX1_target yX1_target, Cond.initialized RX1, Cond.code yX1_target cX1_target 3 (some .int), Cond.fieldLink RX1 18 "KinLedger$Link" "parent" "I", Cond.fieldLink RX1 15 "KinLedger$Link" "column" "I", Cond.methodLink RX1 24 yX1_refers, Cond.instanceMethod yX1_refers, Cond.selects RX1 yX1_refers yX1_refers, Cond.code yX1_refers cX1_refers 3 (some .boolean), Cond.fieldLink RX1 9 "KinLedger$Link" "child" "I", Cond.methodLink RX1 41 yX2_holds, Cond.instanceMethod yX2_holds]
def wsX4_spreadGoing_r2 : List Cond := [Cond.selects RX2 yX2_holds yX2_holds, Cond.initialized RX2, Cond.code yX2_holds cX2_holds 3 (some .boolean), Cond.fieldLink RX2 9 "KinLedger$Rows" "tables" "[I", Cond.methodLink RX1 28 yX2_at, Cond.instanceMethod yX2_at, Cond.selects RX2 yX2_at yX2_at, Cond.code yX2_at cX2_at 3 (some .int), Cond.fieldLink RX2 15 "KinLedger$Rows" "cells" "[I", Cond.methodLink RX1 34 yX2_find, Cond.instanceMethod yX2_find, Cond.selects RX2 yX2_find yX2_find, Cond.code yX2_find cX2_find 4 (some .int), Cond.methodLink RX2 30 yX2_at]
def wsX4_spreadGoing : List Cond := .code yX4_spreadGoing cX4_spreadGoing 4 (some .boolean) :: ((wsX4_spreadGoing_r1 ++ wsX4_spreadGoing_r2) ++ wsX40 ++ wsX10 ++ wsX20)
def wsX4_removeGoing : List Cond := .code yX4_removeGoing cX4_removeGoing 3 (some .int) :: ([.fieldLink RX4 67 "KinLedger" "going" "[Z", .fieldLink RX4 57 "KinLedger" "draft" "LKinLedger$Rows;", .methodLink RX4 209 yX2_remove, .instanceMethod yX2_remove, .selects RX2 yX2_remove yX2_remove, .initialized RX2, .code yX2_remove cX2_remove 2 none, .fieldLink RX2 9 "KinLedger$Rows" "tables" "[I"] ++ wsX40 ++ wsX20)
def wsX4_loosenFromGoing_r1 : List Cond := [Cond.fieldLink RX4 23 "KinLedger" "linkCount" "I", Cond.fieldLink RX4 67 "KinLedger" "going" "[Z", Cond.fieldLink RX4 19 "KinLedger" "links" "[LKinLedger$Link;", Cond.fieldLink RX4 202 "KinLedger$Link" "way" "I", Cond.fieldLink RX4 57 "KinLedger" "draft" "LKinLedger$Rows;", Cond.fieldLink RX4 212 "KinLedger$Link" "column" "I", Cond.methodLink RX4 205 yX4_losesTarget, Cond.instanceMethod yX4_losesTarget, Cond.selects RX4 yX4_losesTarget yX4_losesTarget, Cond.initialized RX4, Cond.code yX4_losesTarget cX4_losesTarget 4 (some .boolean), Cond.fieldLink RX4 53 "KinLedger" "rows" "LKinLedger$Rows;", Cond.methodLink RX4 186 yX1_target, Cond.instanceMethod yX1_target, Cond.selects RX1 yX1_target yX1_target, Cond.initialized RX1, Cond.code yX1_target cX1_target 3 (some .int), Cond.fieldLink RX1 18 "KinLedger$Link" "parent" "I", Cond.fieldLink RX1 15 "KinLedger$Link" "column" "I", Cond.methodLink RX1 24 yX1_refers, Cond.instanceMethod yX1_refers, Cond.selects RX1 yX1_refers yX1_refers, Cond.code yX1_refers cX1_refers 3 (some .boolean), Cond.fieldLink RX1 9 "KinLedger$Link" "child" "I"]
def wsX4_loosenFromGoing_r2 : List Cond := [Cond.methodLink RX1 41 yX2_holds, Cond.instanceMethod yX2_holds, Cond.selects RX2 yX2_holds yX2_holds, Cond.initialized RX2, Cond.code yX2_holds cX2_holds 3 (some .boolean), Cond.fieldLink RX2 9 "KinLedger$Rows" "tables" "[I", Cond.methodLink RX1 28 yX2_at, Cond.instanceMethod yX2_at, Cond.selects RX2 yX2_at yX2_at, Cond.code yX2_at cX2_at 3 (some .int), Cond.fieldLink RX2 15 "KinLedger$Rows" "cells" "[I", Cond.methodLink RX1 34 yX2_find, Cond.instanceMethod yX2_find, Cond.selects RX2 yX2_find yX2_find, Cond.code yX2_find cX2_find 4 (some .int), Cond.methodLink RX2 30 yX2_at, Cond.methodLink RX4 132 yX2_put, Cond.instanceMethod yX2_put, Cond.selects RX2 yX2_put yX2_put, Cond.code yX2_put cX2_put 4 none]
def wsX4_loosenFromGoing : List Cond := .code yX4_loosenFromGoing cX4_loosenFromGoing 4 (some .int) :: ((wsX4_loosenFromGoing_r1 ++ wsX4_loosenFromGoing_r2) ++ wsX40 ++ wsX10 ++ wsX20)
def wsX4_delete_r1 : List Cond := [Cond.fieldLink RX4 57 "KinLedger" "draft" "LKinLedger$Rows;", Cond.fieldLink RX4 53 "KinLedger" "rows" "LKinLedger$Rows;", Cond.methodLink RX4 140 yX4_isColumn, Cond.instanceMethod yX4_isColumn, Cond.selects RX4 yX4_isColumn yX4_isColumn, Cond.initialized RX4, Cond.code yX4_isColumn cX4_isColumn 3 (some .boolean), Cond.fieldLink RX4 9 "KinLedger" "columnCounts" "[I", Cond.methodLink RX4 85 yX4_isTable, Cond.instanceMethod yX4_isTable, Cond.selects RX4 yX4_isTable yX4_isTable, Cond.code yX4_isTable cX4_isTable 2 (some .boolean), Cond.fieldLink RX4 13 "KinLedger" "tableCount" "I", Cond.methodLink RX4 74 yX4_needArgument, Cond.static yX4_needArgument, Cond.code yX4_needArgument cX4_needArgument 1 none, Cond.classLink RX4 190 "java/lang/IllegalArgumentException", Cond.initialized "java/lang/IllegalArgumentException", Cond.methodLink RX4 143 yX4_markGoing, Cond.instanceMethod yX4_markGoing, Cond.selects RX4 yX4_markGoing yX4_markGoing, Cond.code yX4_markGoing cX4_markGoing 5 none, Cond.fieldLink RX4 67 "KinLedger" "going" "[Z", Cond.methodLink RX4 166 yX2_holds]
def wsX4_delete_r2 : List Cond := [Cond.instanceMethod yX2_holds, Cond.selects RX2 yX2_holds yX2_holds, Cond.initialized RX2, Cond.code yX2_holds cX2_holds 3 (some .boolean), Cond.fieldLink RX2 9 "KinLedger$Rows" "tables" "[I", Cond.methodLink RX4 160 yX2_at, Cond.instanceMethod yX2_at, Cond.selects RX2 yX2_at yX2_at, Cond.code yX2_at cX2_at 3 (some .int), Cond.fieldLink RX2 15 "KinLedger$Rows" "cells" "[I", Cond.methodLink RX4 146 yX4_spreadGoing, Cond.instanceMethod yX4_spreadGoing, Cond.selects RX4 yX4_spreadGoing yX4_spreadGoing, Cond.code yX4_spreadGoing cX4_spreadGoing 4 (some .boolean), Cond.fieldLink RX4 23 "KinLedger" "linkCount" "I", Cond.fieldLink RX4 19 "KinLedger" "links" "[LKinLedger$Link;", Cond.fieldLink RX4 202 "KinLedger$Link" "way" "I", Cond.methodLink RX4 205 yX4_losesTarget, Cond.instanceMethod yX4_losesTarget, Cond.selects RX4 yX4_losesTarget yX4_losesTarget, Cond.code yX4_losesTarget cX4_losesTarget 4 (some .boolean), Cond.methodLink RX4 186 yX1_target, Cond.instanceMethod yX1_target, Cond.selects RX1 yX1_target yX1_target]
def wsX4_delete_r3 : List Cond := [Cond.initialized RX1, Cond.code yX1_target cX1_target 3 (some .int), Cond.fieldLink RX1 18 "KinLedger$Link" "parent" "I", Cond.fieldLink RX1 15 "KinLedger$Link" "column" "I", Cond.methodLink RX1 24 yX1_refers, Cond.instanceMethod yX1_refers, Cond.selects RX1 yX1_refers yX1_refers, Cond.code yX1_refers cX1_refers 3 (some .boolean), Cond.fieldLink RX1 9 "KinLedger$Link" "child" "I", Cond.methodLink RX1 41 yX2_holds, Cond.methodLink RX1 28 yX2_at, Cond.methodLink RX1 34 yX2_find, Cond.instanceMethod yX2_find, Cond.selects RX2 yX2_find yX2_find, Cond.code yX2_find cX2_find 4 (some .int), Cond.methodLink RX2 30 yX2_at, Cond.methodLink RX4 125 yX2_become, Cond.instanceMethod yX2_become, Cond.selects RX2 yX2_become yX2_become, Cond.code yX2_become cX2_become 2 none, Cond.methodLink RX2 24 arraycopyName, Cond.native arraycopyName, Cond.static arraycopyName, Cond.initialized "java/lang/System"]
def wsX4_delete_r4 : List Cond := [Cond.methodLink RX4 150 yX4_removeGoing, Cond.instanceMethod yX4_removeGoing, Cond.selects RX4 yX4_removeGoing yX4_removeGoing, Cond.code yX4_removeGoing cX4_removeGoing 3 (some .int), Cond.methodLink RX4 209 yX2_remove, Cond.instanceMethod yX2_remove, Cond.selects RX2 yX2_remove yX2_remove, Cond.code yX2_remove cX2_remove 2 none, Cond.methodLink RX4 153 yX4_loosenFromGoing, Cond.instanceMethod yX4_loosenFromGoing, Cond.selects RX4 yX4_loosenFromGoing yX4_loosenFromGoing, Cond.code yX4_loosenFromGoing cX4_loosenFromGoing 4 (some .int), Cond.fieldLink RX4 212 "KinLedger$Link" "column" "I", Cond.methodLink RX4 132 yX2_put, Cond.instanceMethod yX2_put, Cond.selects RX2 yX2_put yX2_put, Cond.code yX2_put cX2_put 4 none, Cond.methodLink RX4 136 yX4_settle, Cond.instanceMethod yX4_settle, Cond.selects RX4 yX4_settle yX4_settle, Cond.code yX4_settle cX4_settle 3 none, Cond.methodLink RX4 173 yX4_whyBroken, Cond.instanceMethod yX4_whyBroken, Cond.selects RX4 yX4_whyBroken yX4_whyBroken]
def wsX4_delete_r5 : List Cond := [Cond.code yX4_whyBroken cX4_whyBroken 3 (some .int), Cond.fieldLink RX4 32 "KinLedger" "singleCount" "I", Cond.fieldLink RX4 28 "KinLedger" "singles" "[LKinLedger$Single;", Cond.fieldLink RX4 41 "KinLedger" "checkCount" "I", Cond.fieldLink RX4 37 "KinLedger" "checks" "[LKinLedger$Check;", Cond.methodLink RX4 199 yX2_hasTwins, Cond.instanceMethod yX2_hasTwins, Cond.selects RX2 yX2_hasTwins yX2_hasTwins, Cond.code yX2_hasTwins cX2_hasTwins 4 (some .boolean), Cond.methodLink RX2 37 yX2_hasTwinBefore, Cond.instanceMethod yX2_hasTwinBefore, Cond.selects RX2 yX2_hasTwinBefore yX2_hasTwinBefore, Cond.code yX2_hasTwinBefore cX2_hasTwinBefore 4 (some .boolean), Cond.methodLink RX4 103 yX3_isBroken, Cond.instanceMethod yX3_isBroken, Cond.selects RX3 yX3_isBroken yX3_isBroken, Cond.initialized RX3, Cond.code yX3_isBroken cX3_isBroken 2 (some .boolean), Cond.fieldLink RX3 7 "KinLedger$Single" "table" "I", Cond.fieldLink RX3 13 "KinLedger$Single" "column" "I", Cond.methodLink RX3 16 yX2_hasTwins, Cond.methodLink RX4 92 yX1_isBroken, Cond.instanceMethod yX1_isBroken, Cond.selects RX1 yX1_isBroken yX1_isBroken]
def wsX4_delete_r6 : List Cond := [Cond.code yX1_isBroken cX1_isBroken 3 (some .boolean), Cond.methodLink RX1 37 yX1_target, Cond.methodLink RX4 120 yX0_isBroken, Cond.instanceMethod yX0_isBroken, Cond.selects RX0 yX0_isBroken yX0_isBroken, Cond.initialized RX0, Cond.code yX0_isBroken cX0_isBroken 3 (some .boolean), Cond.fieldLink RX0 9 "KinLedger$Check" "table" "I", Cond.methodLink RX0 26 yX2_holds, Cond.methodLink RX0 32 yX0_result, Cond.instanceMethod yX0_result, Cond.selects RX0 yX0_result yX0_result, Cond.code yX0_result cX0_result 6 (some .int), Cond.fieldLink RX0 15 "KinLedger$Check" "words" "[I", Cond.fieldLink RX0 19 "KinLedger$Check" "pile" "[I", Cond.methodLink RX0 22 yX0_taken, Cond.static yX0_taken, Cond.code yX0_taken cX0_taken 1 (some .int), Cond.methodLink RX0 36 yX0_laid, Cond.static yX0_laid, Cond.code yX0_laid cX0_laid 3 (some .int), Cond.methodLink RX0 44 yX2_at, Cond.methodLink RX0 40 yX0_worked, Cond.instanceMethod yX0_worked]
def wsX4_delete_r7 : List Cond := [Cond.selects RX0 yX0_worked yX0_worked, Cond.code yX0_worked cX0_worked 5 (some .int), Cond.methodLink RX4 96 yX4_refuseIf, Cond.instanceMethod yX4_refuseIf, Cond.selects RX4 yX4_refuseIf yX4_refuseIf, Cond.code yX4_refuseIf cX4_refuseIf 3 none, Cond.classLink RX4 196 "java/lang/IllegalStateException", Cond.initialized "java/lang/IllegalStateException", Cond.fieldLink RX4 71 "KinLedger" "latestReason" "I"]
def wsX4_delete : List Cond := .code yX4_delete cX4_delete 6 (some .int) :: ((wsX4_delete_r1 ++ (wsX4_delete_r2 ++ (wsX4_delete_r3 ++ (wsX4_delete_r4 ++ (wsX4_delete_r5 ++ (wsX4_delete_r6 ++ wsX4_delete_r7)))))) ++ wsX40 ++ wsX20 ++ wsX10 ++ wsX30 ++ wsX00 ++ (vx_at0 RX4 192 "java/lang/IllegalArgumentException" ["java/lang/RuntimeException", "java/lang/Exception"]).filter goodWord ++ (vx_at0 RX4 198 "java/lang/IllegalStateException" ["java/lang/RuntimeException", "java/lang/Exception"]).filter goodWord)
def wsX4_passOnKey_r1 : List Cond := [Cond.fieldLink RX4 23 "KinLedger" "linkCount" "I", Cond.fieldLink RX4 19 "KinLedger" "links" "[LKinLedger$Link;", Cond.fieldLink RX4 53 "KinLedger" "rows" "LKinLedger$Rows;", Cond.fieldLink RX4 202 "KinLedger$Link" "way" "I", Cond.fieldLink RX4 57 "KinLedger" "draft" "LKinLedger$Rows;", Cond.fieldLink RX4 212 "KinLedger$Link" "column" "I", Cond.methodLink RX4 186 yX1_target, Cond.instanceMethod yX1_target, Cond.selects RX1 yX1_target yX1_target, Cond.initialized RX1, Cond.code yX1_target cX1_target 3 (some .int), Cond.fieldLink RX1 18 "KinLedger$Link" "parent" "I", Cond.fieldLink RX1 15 "KinLedger$Link" "column" "I", Cond.methodLink RX1 24 yX1_refers, Cond.instanceMethod yX1_refers, Cond.selects RX1 yX1_refers yX1_refers, Cond.code yX1_refers cX1_refers 3 (some .boolean), Cond.fieldLink RX1 9 "KinLedger$Link" "child" "I", Cond.methodLink RX1 41 yX2_holds, Cond.instanceMethod yX2_holds, Cond.selects RX2 yX2_holds yX2_holds, Cond.initialized RX2, Cond.code yX2_holds cX2_holds 3 (some .boolean), Cond.fieldLink RX2 9 "KinLedger$Rows" "tables" "[I"]
def wsX4_passOnKey_r2 : List Cond := [Cond.methodLink RX1 28 yX2_at, Cond.instanceMethod yX2_at, Cond.selects RX2 yX2_at yX2_at, Cond.code yX2_at cX2_at 3 (some .int), Cond.fieldLink RX2 15 "KinLedger$Rows" "cells" "[I", Cond.methodLink RX1 34 yX2_find, Cond.instanceMethod yX2_find, Cond.selects RX2 yX2_find yX2_find, Cond.code yX2_find cX2_find 4 (some .int), Cond.methodLink RX2 30 yX2_at, Cond.methodLink RX4 132 yX2_put, Cond.instanceMethod yX2_put, Cond.selects RX2 yX2_put yX2_put, Cond.code yX2_put cX2_put 4 none]
def wsX4_passOnKey : List Cond := .code yX4_passOnKey cX4_passOnKey 6 (some .int) :: ((wsX4_passOnKey_r1 ++ wsX4_passOnKey_r2) ++ wsX40 ++ wsX10 ++ wsX20)
def wsX4_update_r1 : List Cond := [Cond.fieldLink RX4 53 "KinLedger" "rows" "LKinLedger$Rows;", Cond.fieldLink RX4 57 "KinLedger" "draft" "LKinLedger$Rows;", Cond.methodLink RX4 140 yX4_isColumn, Cond.instanceMethod yX4_isColumn, Cond.selects RX4 yX4_isColumn yX4_isColumn, Cond.initialized RX4, Cond.code yX4_isColumn cX4_isColumn 3 (some .boolean), Cond.fieldLink RX4 9 "KinLedger" "columnCounts" "[I", Cond.methodLink RX4 85 yX4_isTable, Cond.instanceMethod yX4_isTable, Cond.selects RX4 yX4_isTable yX4_isTable, Cond.code yX4_isTable cX4_isTable 2 (some .boolean), Cond.fieldLink RX4 13 "KinLedger" "tableCount" "I", Cond.methodLink RX4 74 yX4_needArgument, Cond.static yX4_needArgument, Cond.code yX4_needArgument cX4_needArgument 1 none, Cond.classLink RX4 190 "java/lang/IllegalArgumentException", Cond.initialized "java/lang/IllegalArgumentException", Cond.methodLink RX4 156 yX2_find, Cond.instanceMethod yX2_find, Cond.selects RX2 yX2_find yX2_find, Cond.initialized RX2, Cond.code yX2_find cX2_find 4 (some .int), Cond.fieldLink RX2 9 "KinLedger$Rows" "tables" "[I"]
def wsX4_update_r2 : List Cond := [Cond.methodLink RX2 30 yX2_at, Cond.instanceMethod yX2_at, Cond.selects RX2 yX2_at yX2_at, Cond.code yX2_at cX2_at 3 (some .int), Cond.fieldLink RX2 15 "KinLedger$Rows" "cells" "[I", Cond.methodLink RX4 78 yX4_needElement, Cond.static yX4_needElement, Cond.code yX4_needElement cX4_needElement 1 none, Cond.classLink RX4 193 "java/util/NoSuchElementException", Cond.initialized "java/util/NoSuchElementException", Cond.methodLink RX4 160 yX2_at, Cond.methodLink RX4 125 yX2_become, Cond.instanceMethod yX2_become, Cond.selects RX2 yX2_become yX2_become, Cond.code yX2_become cX2_become 2 none, Cond.methodLink RX2 24 arraycopyName, Cond.native arraycopyName, Cond.static arraycopyName, Cond.initialized "java/lang/System", Cond.methodLink RX4 132 yX2_put, Cond.instanceMethod yX2_put, Cond.selects RX2 yX2_put yX2_put, Cond.code yX2_put cX2_put 4 none, Cond.methodLink RX4 163 yX4_passOnKey]
def wsX4_update_r3 : List Cond := [Cond.instanceMethod yX4_passOnKey, Cond.selects RX4 yX4_passOnKey yX4_passOnKey, Cond.code yX4_passOnKey cX4_passOnKey 6 (some .int), Cond.fieldLink RX4 23 "KinLedger" "linkCount" "I", Cond.fieldLink RX4 19 "KinLedger" "links" "[LKinLedger$Link;", Cond.fieldLink RX4 202 "KinLedger$Link" "way" "I", Cond.fieldLink RX4 212 "KinLedger$Link" "column" "I", Cond.methodLink RX4 186 yX1_target, Cond.instanceMethod yX1_target, Cond.selects RX1 yX1_target yX1_target, Cond.initialized RX1, Cond.code yX1_target cX1_target 3 (some .int), Cond.fieldLink RX1 18 "KinLedger$Link" "parent" "I", Cond.fieldLink RX1 15 "KinLedger$Link" "column" "I", Cond.methodLink RX1 24 yX1_refers, Cond.instanceMethod yX1_refers, Cond.selects RX1 yX1_refers yX1_refers, Cond.code yX1_refers cX1_refers 3 (some .boolean), Cond.fieldLink RX1 9 "KinLedger$Link" "child" "I", Cond.methodLink RX1 41 yX2_holds, Cond.instanceMethod yX2_holds, Cond.selects RX2 yX2_holds yX2_holds, Cond.code yX2_holds cX2_holds 3 (some .boolean), Cond.methodLink RX1 28 yX2_at]
def wsX4_update_r4 : List Cond := [Cond.methodLink RX1 34 yX2_find, Cond.methodLink RX4 136 yX4_settle, Cond.instanceMethod yX4_settle, Cond.selects RX4 yX4_settle yX4_settle, Cond.code yX4_settle cX4_settle 3 none, Cond.methodLink RX4 173 yX4_whyBroken, Cond.instanceMethod yX4_whyBroken, Cond.selects RX4 yX4_whyBroken yX4_whyBroken, Cond.code yX4_whyBroken cX4_whyBroken 3 (some .int), Cond.fieldLink RX4 32 "KinLedger" "singleCount" "I", Cond.fieldLink RX4 28 "KinLedger" "singles" "[LKinLedger$Single;", Cond.fieldLink RX4 41 "KinLedger" "checkCount" "I", Cond.fieldLink RX4 37 "KinLedger" "checks" "[LKinLedger$Check;", Cond.methodLink RX4 199 yX2_hasTwins, Cond.instanceMethod yX2_hasTwins, Cond.selects RX2 yX2_hasTwins yX2_hasTwins, Cond.code yX2_hasTwins cX2_hasTwins 4 (some .boolean), Cond.methodLink RX2 37 yX2_hasTwinBefore, Cond.instanceMethod yX2_hasTwinBefore, Cond.selects RX2 yX2_hasTwinBefore yX2_hasTwinBefore, Cond.code yX2_hasTwinBefore cX2_hasTwinBefore 4 (some .boolean), Cond.methodLink RX4 103 yX3_isBroken, Cond.instanceMethod yX3_isBroken, Cond.selects RX3 yX3_isBroken yX3_isBroken]
def wsX4_update_r5 : List Cond := [Cond.initialized RX3, Cond.code yX3_isBroken cX3_isBroken 2 (some .boolean), Cond.fieldLink RX3 7 "KinLedger$Single" "table" "I", Cond.fieldLink RX3 13 "KinLedger$Single" "column" "I", Cond.methodLink RX3 16 yX2_hasTwins, Cond.methodLink RX4 92 yX1_isBroken, Cond.instanceMethod yX1_isBroken, Cond.selects RX1 yX1_isBroken yX1_isBroken, Cond.code yX1_isBroken cX1_isBroken 3 (some .boolean), Cond.methodLink RX1 37 yX1_target, Cond.methodLink RX4 120 yX0_isBroken, Cond.instanceMethod yX0_isBroken, Cond.selects RX0 yX0_isBroken yX0_isBroken, Cond.initialized RX0, Cond.code yX0_isBroken cX0_isBroken 3 (some .boolean), Cond.fieldLink RX0 9 "KinLedger$Check" "table" "I", Cond.methodLink RX0 26 yX2_holds, Cond.methodLink RX0 32 yX0_result, Cond.instanceMethod yX0_result, Cond.selects RX0 yX0_result yX0_result, Cond.code yX0_result cX0_result 6 (some .int), Cond.fieldLink RX0 15 "KinLedger$Check" "words" "[I", Cond.fieldLink RX0 19 "KinLedger$Check" "pile" "[I", Cond.methodLink RX0 22 yX0_taken]
def wsX4_update_r6 : List Cond := [Cond.static yX0_taken, Cond.code yX0_taken cX0_taken 1 (some .int), Cond.methodLink RX0 36 yX0_laid, Cond.static yX0_laid, Cond.code yX0_laid cX0_laid 3 (some .int), Cond.methodLink RX0 44 yX2_at, Cond.methodLink RX0 40 yX0_worked, Cond.instanceMethod yX0_worked, Cond.selects RX0 yX0_worked yX0_worked, Cond.code yX0_worked cX0_worked 5 (some .int), Cond.methodLink RX4 96 yX4_refuseIf, Cond.instanceMethod yX4_refuseIf, Cond.selects RX4 yX4_refuseIf yX4_refuseIf, Cond.code yX4_refuseIf cX4_refuseIf 3 none, Cond.classLink RX4 196 "java/lang/IllegalStateException", Cond.initialized "java/lang/IllegalStateException", Cond.fieldLink RX4 71 "KinLedger" "latestReason" "I"]
def wsX4_update : List Cond := .code yX4_update cX4_update 7 (some .int) :: ((wsX4_update_r1 ++ (wsX4_update_r2 ++ (wsX4_update_r3 ++ (wsX4_update_r4 ++ (wsX4_update_r5 ++ wsX4_update_r6))))) ++ wsX40 ++ wsX20 ++ wsX10 ++ wsX30 ++ wsX00 ++ (vx_at0 RX4 192 "java/lang/IllegalArgumentException" ["java/lang/RuntimeException", "java/lang/Exception"]).filter goodWord ++ (vx_at0 RX4 195 "java/util/NoSuchElementException" ["java/lang/RuntimeException", "java/lang/Exception"]).filter goodWord ++ (vx_at0 RX4 198 "java/lang/IllegalStateException" ["java/lang/RuntimeException", "java/lang/Exception"]).filter goodWord)
def wsX4_shift_r1 : List Cond := [Cond.fieldLink RX4 57 "KinLedger" "draft" "LKinLedger$Rows;", Cond.fieldLink RX4 53 "KinLedger" "rows" "LKinLedger$Rows;", Cond.methodLink RX4 81 yX4_isCellColumn, Cond.instanceMethod yX4_isCellColumn, Cond.selects RX4 yX4_isCellColumn yX4_isCellColumn, Cond.initialized RX4, Cond.code yX4_isCellColumn cX4_isCellColumn 3 (some .boolean), Cond.methodLink RX4 140 yX4_isColumn, Cond.instanceMethod yX4_isColumn, Cond.selects RX4 yX4_isColumn yX4_isColumn, Cond.code yX4_isColumn cX4_isColumn 3 (some .boolean), Cond.fieldLink RX4 9 "KinLedger" "columnCounts" "[I", Cond.methodLink RX4 85 yX4_isTable, Cond.instanceMethod yX4_isTable, Cond.selects RX4 yX4_isTable yX4_isTable, Cond.code yX4_isTable cX4_isTable 2 (some .boolean), Cond.fieldLink RX4 13 "KinLedger" "tableCount" "I", Cond.methodLink RX4 74 yX4_needArgument, Cond.static yX4_needArgument, Cond.code yX4_needArgument cX4_needArgument 1 none, Cond.classLink RX4 190 "java/lang/IllegalArgumentException", Cond.initialized "java/lang/IllegalArgumentException", Cond.methodLink RX4 125 yX2_become, Cond.instanceMethod yX2_become]
def wsX4_shift_r2 : List Cond := [Cond.selects RX2 yX2_become yX2_become, Cond.initialized RX2, Cond.code yX2_become cX2_become 2 none, Cond.fieldLink RX2 9 "KinLedger$Rows" "tables" "[I", Cond.methodLink RX2 24 arraycopyName, Cond.native arraycopyName, Cond.static arraycopyName, Cond.initialized "java/lang/System", Cond.fieldLink RX2 15 "KinLedger$Rows" "cells" "[I", Cond.methodLink RX4 166 yX2_holds, Cond.instanceMethod yX2_holds, Cond.selects RX2 yX2_holds yX2_holds, Cond.code yX2_holds cX2_holds 3 (some .boolean), Cond.methodLink RX4 160 yX2_at, Cond.instanceMethod yX2_at, Cond.selects RX2 yX2_at yX2_at, Cond.code yX2_at cX2_at 3 (some .int), Cond.methodLink RX4 132 yX2_put, Cond.instanceMethod yX2_put, Cond.selects RX2 yX2_put yX2_put, Cond.code yX2_put cX2_put 4 none, Cond.methodLink RX4 136 yX4_settle, Cond.instanceMethod yX4_settle, Cond.selects RX4 yX4_settle yX4_settle]
def wsX4_shift_r3 : List Cond := [Cond.code yX4_settle cX4_settle 3 none, Cond.methodLink RX4 173 yX4_whyBroken, Cond.instanceMethod yX4_whyBroken, Cond.selects RX4 yX4_whyBroken yX4_whyBroken, Cond.code yX4_whyBroken cX4_whyBroken 3 (some .int), Cond.fieldLink RX4 32 "KinLedger" "singleCount" "I", Cond.fieldLink RX4 28 "KinLedger" "singles" "[LKinLedger$Single;", Cond.fieldLink RX4 23 "KinLedger" "linkCount" "I", Cond.fieldLink RX4 19 "KinLedger" "links" "[LKinLedger$Link;", Cond.fieldLink RX4 41 "KinLedger" "checkCount" "I", Cond.fieldLink RX4 37 "KinLedger" "checks" "[LKinLedger$Check;", Cond.methodLink RX4 199 yX2_hasTwins, Cond.instanceMethod yX2_hasTwins, Cond.selects RX2 yX2_hasTwins yX2_hasTwins, Cond.code yX2_hasTwins cX2_hasTwins 4 (some .boolean), Cond.methodLink RX2 30 yX2_at, Cond.methodLink RX2 37 yX2_hasTwinBefore, Cond.instanceMethod yX2_hasTwinBefore, Cond.selects RX2 yX2_hasTwinBefore yX2_hasTwinBefore, Cond.code yX2_hasTwinBefore cX2_hasTwinBefore 4 (some .boolean), Cond.methodLink RX4 103 yX3_isBroken, Cond.instanceMethod yX3_isBroken, Cond.selects RX3 yX3_isBroken yX3_isBroken, Cond.initialized RX3]
def wsX4_shift_r4 : List Cond := [Cond.code yX3_isBroken cX3_isBroken 2 (some .boolean), Cond.fieldLink RX3 7 "KinLedger$Single" "table" "I", Cond.fieldLink RX3 13 "KinLedger$Single" "column" "I", Cond.methodLink RX3 16 yX2_hasTwins, Cond.methodLink RX4 92 yX1_isBroken, Cond.instanceMethod yX1_isBroken, Cond.selects RX1 yX1_isBroken yX1_isBroken, Cond.initialized RX1, Cond.code yX1_isBroken cX1_isBroken 3 (some .boolean), Cond.methodLink RX1 24 yX1_refers, Cond.instanceMethod yX1_refers, Cond.selects RX1 yX1_refers yX1_refers, Cond.code yX1_refers cX1_refers 3 (some .boolean), Cond.fieldLink RX1 9 "KinLedger$Link" "child" "I", Cond.fieldLink RX1 15 "KinLedger$Link" "column" "I", Cond.methodLink RX1 41 yX2_holds, Cond.methodLink RX1 28 yX2_at, Cond.methodLink RX1 37 yX1_target, Cond.instanceMethod yX1_target, Cond.selects RX1 yX1_target yX1_target, Cond.code yX1_target cX1_target 3 (some .int), Cond.fieldLink RX1 18 "KinLedger$Link" "parent" "I", Cond.methodLink RX1 34 yX2_find, Cond.instanceMethod yX2_find]
def wsX4_shift_r5 : List Cond := [Cond.selects RX2 yX2_find yX2_find, Cond.code yX2_find cX2_find 4 (some .int), Cond.methodLink RX4 120 yX0_isBroken, Cond.instanceMethod yX0_isBroken, Cond.selects RX0 yX0_isBroken yX0_isBroken, Cond.initialized RX0, Cond.code yX0_isBroken cX0_isBroken 3 (some .boolean), Cond.fieldLink RX0 9 "KinLedger$Check" "table" "I", Cond.methodLink RX0 26 yX2_holds, Cond.methodLink RX0 32 yX0_result, Cond.instanceMethod yX0_result, Cond.selects RX0 yX0_result yX0_result, Cond.code yX0_result cX0_result 6 (some .int), Cond.fieldLink RX0 15 "KinLedger$Check" "words" "[I", Cond.fieldLink RX0 19 "KinLedger$Check" "pile" "[I", Cond.methodLink RX0 22 yX0_taken, Cond.static yX0_taken, Cond.code yX0_taken cX0_taken 1 (some .int), Cond.methodLink RX0 36 yX0_laid, Cond.static yX0_laid, Cond.code yX0_laid cX0_laid 3 (some .int), Cond.methodLink RX0 44 yX2_at, Cond.methodLink RX0 40 yX0_worked, Cond.instanceMethod yX0_worked]
def wsX4_shift_r6 : List Cond := [Cond.selects RX0 yX0_worked yX0_worked, Cond.code yX0_worked cX0_worked 5 (some .int), Cond.methodLink RX4 96 yX4_refuseIf, Cond.instanceMethod yX4_refuseIf, Cond.selects RX4 yX4_refuseIf yX4_refuseIf, Cond.code yX4_refuseIf cX4_refuseIf 3 none, Cond.classLink RX4 196 "java/lang/IllegalStateException", Cond.initialized "java/lang/IllegalStateException", Cond.fieldLink RX4 71 "KinLedger" "latestReason" "I", Cond.methodLink RX4 169 yX2_size, Cond.instanceMethod yX2_size, Cond.selects RX2 yX2_size yX2_size, Cond.code yX2_size cX2_size 4 (some .int)]
def wsX4_shift : List Cond := .code yX4_shift cX4_shift 5 (some .int) :: ((wsX4_shift_r1 ++ (wsX4_shift_r2 ++ (wsX4_shift_r3 ++ (wsX4_shift_r4 ++ (wsX4_shift_r5 ++ wsX4_shift_r6))))) ++ wsX40 ++ wsX20 ++ wsX30 ++ wsX10 ++ wsX00 ++ (vx_at0 RX4 192 "java/lang/IllegalArgumentException" ["java/lang/RuntimeException", "java/lang/Exception"]).filter goodWord ++ (vx_at0 RX4 198 "java/lang/IllegalStateException" ["java/lang/RuntimeException", "java/lang/Exception"]).filter goodWord)
def wsX4_keep : List Cond := .code yX4_keep cX4_keep 1 (some .int) :: ([.fieldLink RX4 64 "KinLedger" "rememberedCount" "I", .fieldLink RX4 60 "KinLedger" "remembered" "[LKinLedger$Rows;", .fieldLink RX4 53 "KinLedger" "rows" "LKinLedger$Rows;", .methodLink RX4 78 yX4_needElement, .static yX4_needElement, .initialized RX4, .code yX4_needElement cX4_needElement 1 none, .classLink RX4 193 "java/util/NoSuchElementException", .initialized "java/util/NoSuchElementException", .methodLink RX4 125 yX2_become, .instanceMethod yX2_become, .selects RX2 yX2_become yX2_become, .initialized RX2, .code yX2_become cX2_become 2 none, .fieldLink RX2 9 "KinLedger$Rows" "tables" "[I", .methodLink RX2 24 arraycopyName, .native arraycopyName, .static arraycopyName, .initialized "java/lang/System", .fieldLink RX2 15 "KinLedger$Rows" "cells" "[I"] ++ wsX40 ++ wsX20 ++ (vx_at0 RX4 195 "java/util/NoSuchElementException" ["java/lang/RuntimeException", "java/lang/Exception"]).filter goodWord)
def wsX4_back_r1 : List Cond := [Cond.fieldLink RX4 64 "KinLedger" "rememberedCount" "I", Cond.fieldLink RX4 60 "KinLedger" "remembered" "[LKinLedger$Rows;", Cond.fieldLink RX4 53 "KinLedger" "rows" "LKinLedger$Rows;", Cond.methodLink RX4 78 yX4_needElement, Cond.static yX4_needElement, Cond.initialized RX4, Cond.code yX4_needElement cX4_needElement 1 none, Cond.classLink RX4 193 "java/util/NoSuchElementException", Cond.initialized "java/util/NoSuchElementException", Cond.methodLink RX4 173 yX4_whyBroken, Cond.instanceMethod yX4_whyBroken, Cond.selects RX4 yX4_whyBroken yX4_whyBroken, Cond.code yX4_whyBroken cX4_whyBroken 3 (some .int), Cond.fieldLink RX4 13 "KinLedger" "tableCount" "I", Cond.fieldLink RX4 32 "KinLedger" "singleCount" "I", Cond.fieldLink RX4 28 "KinLedger" "singles" "[LKinLedger$Single;", Cond.fieldLink RX4 23 "KinLedger" "linkCount" "I", Cond.fieldLink RX4 19 "KinLedger" "links" "[LKinLedger$Link;", Cond.fieldLink RX4 41 "KinLedger" "checkCount" "I", Cond.fieldLink RX4 37 "KinLedger" "checks" "[LKinLedger$Check;", Cond.methodLink RX4 199 yX2_hasTwins, Cond.instanceMethod yX2_hasTwins, Cond.selects RX2 yX2_hasTwins yX2_hasTwins, Cond.initialized RX2]
def wsX4_back_r2 : List Cond := [Cond.code yX2_hasTwins cX2_hasTwins 4 (some .boolean), Cond.fieldLink RX2 9 "KinLedger$Rows" "tables" "[I", Cond.methodLink RX2 30 yX2_at, Cond.instanceMethod yX2_at, Cond.selects RX2 yX2_at yX2_at, Cond.code yX2_at cX2_at 3 (some .int), Cond.fieldLink RX2 15 "KinLedger$Rows" "cells" "[I", Cond.methodLink RX2 37 yX2_hasTwinBefore, Cond.instanceMethod yX2_hasTwinBefore, Cond.selects RX2 yX2_hasTwinBefore yX2_hasTwinBefore, Cond.code yX2_hasTwinBefore cX2_hasTwinBefore 4 (some .boolean), Cond.methodLink RX4 103 yX3_isBroken, Cond.instanceMethod yX3_isBroken, Cond.selects RX3 yX3_isBroken yX3_isBroken, Cond.initialized RX3, Cond.code yX3_isBroken cX3_isBroken 2 (some .boolean), Cond.fieldLink RX3 7 "KinLedger$Single" "table" "I", Cond.fieldLink RX3 13 "KinLedger$Single" "column" "I", Cond.methodLink RX3 16 yX2_hasTwins, Cond.methodLink RX4 92 yX1_isBroken, Cond.instanceMethod yX1_isBroken, Cond.selects RX1 yX1_isBroken yX1_isBroken, Cond.initialized RX1, Cond.code yX1_isBroken cX1_isBroken 3 (some .boolean)]
def wsX4_back_r3 : List Cond := [Cond.methodLink RX1 24 yX1_refers, Cond.instanceMethod yX1_refers, Cond.selects RX1 yX1_refers yX1_refers, Cond.code yX1_refers cX1_refers 3 (some .boolean), Cond.fieldLink RX1 9 "KinLedger$Link" "child" "I", Cond.fieldLink RX1 15 "KinLedger$Link" "column" "I", Cond.methodLink RX1 41 yX2_holds, Cond.instanceMethod yX2_holds, Cond.selects RX2 yX2_holds yX2_holds, Cond.code yX2_holds cX2_holds 3 (some .boolean), Cond.methodLink RX1 28 yX2_at, Cond.methodLink RX1 37 yX1_target, Cond.instanceMethod yX1_target, Cond.selects RX1 yX1_target yX1_target, Cond.code yX1_target cX1_target 3 (some .int), Cond.fieldLink RX1 18 "KinLedger$Link" "parent" "I", Cond.methodLink RX1 34 yX2_find, Cond.instanceMethod yX2_find, Cond.selects RX2 yX2_find yX2_find, Cond.code yX2_find cX2_find 4 (some .int), Cond.methodLink RX4 120 yX0_isBroken, Cond.instanceMethod yX0_isBroken, Cond.selects RX0 yX0_isBroken yX0_isBroken, Cond.initialized RX0]
def wsX4_back_r4 : List Cond := [Cond.code yX0_isBroken cX0_isBroken 3 (some .boolean), Cond.fieldLink RX0 9 "KinLedger$Check" "table" "I", Cond.methodLink RX0 26 yX2_holds, Cond.methodLink RX0 32 yX0_result, Cond.instanceMethod yX0_result, Cond.selects RX0 yX0_result yX0_result, Cond.code yX0_result cX0_result 6 (some .int), Cond.fieldLink RX0 15 "KinLedger$Check" "words" "[I", Cond.fieldLink RX0 19 "KinLedger$Check" "pile" "[I", Cond.methodLink RX0 22 yX0_taken, Cond.static yX0_taken, Cond.code yX0_taken cX0_taken 1 (some .int), Cond.methodLink RX0 36 yX0_laid, Cond.static yX0_laid, Cond.code yX0_laid cX0_laid 3 (some .int), Cond.methodLink RX0 44 yX2_at, Cond.methodLink RX0 40 yX0_worked, Cond.instanceMethod yX0_worked, Cond.selects RX0 yX0_worked yX0_worked, Cond.code yX0_worked cX0_worked 5 (some .int), Cond.methodLink RX4 96 yX4_refuseIf, Cond.instanceMethod yX4_refuseIf, Cond.selects RX4 yX4_refuseIf yX4_refuseIf, Cond.code yX4_refuseIf cX4_refuseIf 3 none]
def wsX4_back_r5 : List Cond := [Cond.classLink RX4 196 "java/lang/IllegalStateException", Cond.initialized "java/lang/IllegalStateException", Cond.fieldLink RX4 71 "KinLedger" "latestReason" "I", Cond.methodLink RX4 125 yX2_become, Cond.instanceMethod yX2_become, Cond.selects RX2 yX2_become yX2_become, Cond.code yX2_become cX2_become 2 none, Cond.methodLink RX2 24 arraycopyName, Cond.native arraycopyName, Cond.static arraycopyName, Cond.initialized "java/lang/System"]
def wsX4_back : List Cond := .code yX4_back cX4_back 3 (some .int) :: ((wsX4_back_r1 ++ (wsX4_back_r2 ++ (wsX4_back_r3 ++ (wsX4_back_r4 ++ wsX4_back_r5)))) ++ wsX40 ++ wsX20 ++ wsX30 ++ wsX10 ++ wsX00 ++ (vx_at0 RX4 195 "java/util/NoSuchElementException" ["java/lang/RuntimeException", "java/lang/Exception"]).filter goodWord ++ (vx_at0 RX4 198 "java/lang/IllegalStateException" ["java/lang/RuntimeException", "java/lang/Exception"]).filter goodWord)
def wsX4_has : List Cond := .code yX4_has cX4_has 3 (some .boolean) :: ([.fieldLink RX4 53 "KinLedger" "rows" "LKinLedger$Rows;", .methodLink RX4 85 yX4_isTable, .instanceMethod yX4_isTable, .selects RX4 yX4_isTable yX4_isTable, .initialized RX4, .code yX4_isTable cX4_isTable 2 (some .boolean), .fieldLink RX4 13 "KinLedger" "tableCount" "I", .methodLink RX4 74 yX4_needArgument, .static yX4_needArgument, .code yX4_needArgument cX4_needArgument 1 none, .classLink RX4 190 "java/lang/IllegalArgumentException", .initialized "java/lang/IllegalArgumentException", .methodLink RX4 156 yX2_find, .instanceMethod yX2_find, .selects RX2 yX2_find yX2_find, .initialized RX2, .code yX2_find cX2_find 4 (some .int), .fieldLink RX2 9 "KinLedger$Rows" "tables" "[I", .methodLink RX2 30 yX2_at, .instanceMethod yX2_at, .selects RX2 yX2_at yX2_at, .code yX2_at cX2_at 3 (some .int), .fieldLink RX2 15 "KinLedger$Rows" "cells" "[I"] ++ wsX40 ++ wsX20 ++ (vx_at0 RX4 192 "java/lang/IllegalArgumentException" ["java/lang/RuntimeException", "java/lang/Exception"]).filter goodWord)
def wsX4_cell_r1 : List Cond := [Cond.fieldLink RX4 53 "KinLedger" "rows" "LKinLedger$Rows;", Cond.methodLink RX4 140 yX4_isColumn, Cond.instanceMethod yX4_isColumn, Cond.selects RX4 yX4_isColumn yX4_isColumn, Cond.initialized RX4, Cond.code yX4_isColumn cX4_isColumn 3 (some .boolean), Cond.fieldLink RX4 9 "KinLedger" "columnCounts" "[I", Cond.methodLink RX4 85 yX4_isTable, Cond.instanceMethod yX4_isTable, Cond.selects RX4 yX4_isTable yX4_isTable, Cond.code yX4_isTable cX4_isTable 2 (some .boolean), Cond.fieldLink RX4 13 "KinLedger" "tableCount" "I", Cond.methodLink RX4 74 yX4_needArgument, Cond.static yX4_needArgument, Cond.code yX4_needArgument cX4_needArgument 1 none, Cond.classLink RX4 190 "java/lang/IllegalArgumentException", Cond.initialized "java/lang/IllegalArgumentException", Cond.methodLink RX4 156 yX2_find, Cond.instanceMethod yX2_find, Cond.selects RX2 yX2_find yX2_find, Cond.initialized RX2, Cond.code yX2_find cX2_find 4 (some .int), Cond.fieldLink RX2 9 "KinLedger$Rows" "tables" "[I", Cond.methodLink RX2 30 yX2_at]
def wsX4_cell_r2 : List Cond := [Cond.instanceMethod yX2_at, Cond.selects RX2 yX2_at yX2_at, Cond.code yX2_at cX2_at 3 (some .int), Cond.fieldLink RX2 15 "KinLedger$Rows" "cells" "[I", Cond.methodLink RX4 78 yX4_needElement, Cond.static yX4_needElement, Cond.code yX4_needElement cX4_needElement 1 none, Cond.classLink RX4 193 "java/util/NoSuchElementException", Cond.initialized "java/util/NoSuchElementException", Cond.methodLink RX4 160 yX2_at]
def wsX4_cell : List Cond := .code yX4_cell cX4_cell 5 (some .int) :: ((wsX4_cell_r1 ++ wsX4_cell_r2) ++ wsX40 ++ wsX20 ++ (vx_at0 RX4 192 "java/lang/IllegalArgumentException" ["java/lang/RuntimeException", "java/lang/Exception"]).filter goodWord ++ (vx_at0 RX4 195 "java/util/NoSuchElementException" ["java/lang/RuntimeException", "java/lang/Exception"]).filter goodWord)
def wsX4_key_r1 : List Cond := [Cond.classLink RX4 180 "java/lang/IndexOutOfBoundsException", Cond.initialized "java/lang/IndexOutOfBoundsException", Cond.fieldLink RX4 53 "KinLedger" "rows" "LKinLedger$Rows;", Cond.methodLink RX4 85 yX4_isTable, Cond.instanceMethod yX4_isTable, Cond.selects RX4 yX4_isTable yX4_isTable, Cond.initialized RX4, Cond.code yX4_isTable cX4_isTable 2 (some .boolean), Cond.fieldLink RX4 13 "KinLedger" "tableCount" "I", Cond.methodLink RX4 74 yX4_needArgument, Cond.static yX4_needArgument, Cond.code yX4_needArgument cX4_needArgument 1 none, Cond.classLink RX4 190 "java/lang/IllegalArgumentException", Cond.initialized "java/lang/IllegalArgumentException", Cond.methodLink RX4 177 yX2_placeOfRank, Cond.instanceMethod yX2_placeOfRank, Cond.selects RX2 yX2_placeOfRank yX2_placeOfRank, Cond.initialized RX2, Cond.code yX2_placeOfRank cX2_placeOfRank 4 (some .int), Cond.fieldLink RX2 9 "KinLedger$Rows" "tables" "[I", Cond.methodLink RX2 30 yX2_at, Cond.instanceMethod yX2_at, Cond.selects RX2 yX2_at yX2_at, Cond.code yX2_at cX2_at 3 (some .int)]
def wsX4_key_r2 : List Cond := [Cond.fieldLink RX2 15 "KinLedger$Rows" "cells" "[I", Cond.methodLink RX2 34 yX2_lesserKeys, Cond.instanceMethod yX2_lesserKeys, Cond.selects RX2 yX2_lesserKeys yX2_lesserKeys, Cond.code yX2_lesserKeys cX2_lesserKeys 5 (some .int), Cond.methodLink RX4 160 yX2_at]
def wsX4_key : List Cond := .code yX4_key cX4_key 4 (some .int) :: ((wsX4_key_r1 ++ wsX4_key_r2) ++ wsX40 ++ wsX20 ++ (vx_at0 RX4 182 "java/lang/IndexOutOfBoundsException" ["java/lang/RuntimeException", "java/lang/Exception"]).filter goodWord ++ (vx_at0 RX4 192 "java/lang/IllegalArgumentException" ["java/lang/RuntimeException", "java/lang/Exception"]).filter goodWord)
def wsX4_count : List Cond := .code yX4_count cX4_count 2 (some .int) :: ([.fieldLink RX4 53 "KinLedger" "rows" "LKinLedger$Rows;", .methodLink RX4 85 yX4_isTable, .instanceMethod yX4_isTable, .selects RX4 yX4_isTable yX4_isTable, .initialized RX4, .code yX4_isTable cX4_isTable 2 (some .boolean), .fieldLink RX4 13 "KinLedger" "tableCount" "I", .methodLink RX4 74 yX4_needArgument, .static yX4_needArgument, .code yX4_needArgument cX4_needArgument 1 none, .classLink RX4 190 "java/lang/IllegalArgumentException", .initialized "java/lang/IllegalArgumentException", .methodLink RX4 169 yX2_size, .instanceMethod yX2_size, .selects RX2 yX2_size yX2_size, .initialized RX2, .code yX2_size cX2_size 4 (some .int), .fieldLink RX2 9 "KinLedger$Rows" "tables" "[I"] ++ wsX40 ++ wsX20 ++ (vx_at0 RX4 192 "java/lang/IllegalArgumentException" ["java/lang/RuntimeException", "java/lang/Exception"]).filter goodWord)
def wsX4_referring_r1 : List Cond := [Cond.fieldLink RX4 23 "KinLedger" "linkCount" "I", Cond.fieldLink RX4 53 "KinLedger" "rows" "LKinLedger$Rows;", Cond.fieldLink RX4 19 "KinLedger" "links" "[LKinLedger$Link;", Cond.fieldLink RX4 183 "KinLedger$Link" "parent" "I", Cond.methodLink RX4 74 yX4_needArgument, Cond.static yX4_needArgument, Cond.initialized RX4, Cond.code yX4_needArgument cX4_needArgument 1 none, Cond.classLink RX4 190 "java/lang/IllegalArgumentException", Cond.initialized "java/lang/IllegalArgumentException", Cond.methodLink RX4 156 yX2_find, Cond.instanceMethod yX2_find, Cond.selects RX2 yX2_find yX2_find, Cond.initialized RX2, Cond.code yX2_find cX2_find 4 (some .int), Cond.fieldLink RX2 9 "KinLedger$Rows" "tables" "[I", Cond.methodLink RX2 30 yX2_at, Cond.instanceMethod yX2_at, Cond.selects RX2 yX2_at yX2_at, Cond.code yX2_at cX2_at 3 (some .int), Cond.fieldLink RX2 15 "KinLedger$Rows" "cells" "[I", Cond.methodLink RX4 78 yX4_needElement, Cond.static yX4_needElement, Cond.code yX4_needElement cX4_needElement 1 none]
def wsX4_referring_r2 : List Cond := [Cond.classLink RX4 193 "java/util/NoSuchElementException", Cond.initialized "java/util/NoSuchElementException", Cond.methodLink RX4 186 yX1_target, Cond.instanceMethod yX1_target, Cond.selects RX1 yX1_target yX1_target, Cond.initialized RX1, Cond.code yX1_target cX1_target 3 (some .int), Cond.fieldLink RX1 18 "KinLedger$Link" "parent" "I", Cond.fieldLink RX1 15 "KinLedger$Link" "column" "I", Cond.methodLink RX1 24 yX1_refers, Cond.instanceMethod yX1_refers, Cond.selects RX1 yX1_refers yX1_refers, Cond.code yX1_refers cX1_refers 3 (some .boolean), Cond.fieldLink RX1 9 "KinLedger$Link" "child" "I", Cond.methodLink RX1 41 yX2_holds, Cond.instanceMethod yX2_holds, Cond.selects RX2 yX2_holds yX2_holds, Cond.code yX2_holds cX2_holds 3 (some .boolean), Cond.methodLink RX1 28 yX2_at, Cond.methodLink RX1 34 yX2_find]
def wsX4_referring : List Cond := .code yX4_referring cX4_referring 6 (some .int) :: ((wsX4_referring_r1 ++ wsX4_referring_r2) ++ wsX40 ++ wsX10 ++ wsX20 ++ (vx_at0 RX4 192 "java/lang/IllegalArgumentException" ["java/lang/RuntimeException", "java/lang/Exception"]).filter goodWord ++ (vx_at0 RX4 195 "java/util/NoSuchElementException" ["java/lang/RuntimeException", "java/lang/Exception"]).filter goodWord)
def wsX4_reason : List Cond := .code yX4_reason cX4_reason 1 (some .int) :: ([.fieldLink RX4 71 "KinLedger" "latestReason" "I"] ++ wsX40)
def wsX5_init_r1 : List Cond := [Cond.methodLink RX5 1 objectInit, Cond.instanceMethod objectInit, Cond.code objectInit ⟨#[0xb1]⟩ 1 none, Cond.arrayClass .int, Cond.fieldLink RX5 7 "KinLedgerModel" "columns" "[I", Cond.fieldLink RX5 13 "KinLedgerModel" "of" "[I", Cond.fieldLink RX5 16 "KinLedgerModel" "cells" "[I", Cond.fieldLink RX5 19 "KinLedgerModel" "oldOf" "[I", Cond.fieldLink RX5 22 "KinLedgerModel" "old" "[I", Cond.arrayClass .boolean, Cond.fieldLink RX5 25 "KinLedgerModel" "gone" "[Z", Cond.fieldLink RX5 29 "KinLedgerModel" "child" "[I", Cond.fieldLink RX5 32 "KinLedgerModel" "linkColumn" "[I", Cond.fieldLink RX5 35 "KinLedgerModel" "parent" "[I", Cond.fieldLink RX5 38 "KinLedgerModel" "ways" "[I", Cond.fieldLink RX5 41 "KinLedgerModel" "singleTable" "[I", Cond.fieldLink RX5 44 "KinLedgerModel" "singleColumn" "[I", Cond.fieldLink RX5 47 "KinLedgerModel" "checkTable" "[I", Cond.fieldLink RX5 50 "KinLedgerModel" "checkLength" "[I", Cond.fieldLink RX5 53 "KinLedgerModel" "checkWords" "[I", Cond.fieldLink RX5 56 "KinLedgerModel" "words" "[I", Cond.fieldLink RX5 59 "KinLedgerModel" "pile" "[I", Cond.fieldLink RX5 62 "KinLedgerModel" "keptRows" "[I", Cond.fieldLink RX5 65 "KinLedgerModel" "keptOf" "[I"]
def wsX5_init_r2 : List Cond := [Cond.fieldLink RX5 68 "KinLedgerModel" "keptCells" "[I"]
def wsX5_init : List Cond := .code yX5_init cX5_init 1 none :: ((wsX5_init_r1 ++ wsX5_init_r2) ++ wsX50)
def wsX5_thrown : List Cond := .code yX5_thrown cX5_thrown 1 (some .int) :: ([.fieldLink RX5 71 "KinLedgerModel" "code" "I"] ++ wsX50)
def wsX5_isTable : List Cond := .code yX5_isTable cX5_isTable 2 (some .boolean) :: ([.fieldLink RX5 75 "KinLedgerModel" "tables" "I"] ++ wsX50)
def wsX5_isColumn : List Cond := .code yX5_isColumn cX5_isColumn 3 (some .boolean) :: ([.fieldLink RX5 7 "KinLedgerModel" "columns" "[I", .methodLink RX5 78 yX5_isTable, .instanceMethod yX5_isTable, .selects RX5 yX5_isTable yX5_isTable, .initialized RX5, .code yX5_isTable cX5_isTable 2 (some .boolean), .fieldLink RX5 75 "KinLedgerModel" "tables" "I"] ++ wsX50)
def wsX5_table : List Cond := .code yX5_table cX5_table 2 (some .int) :: ([.fieldLink RX5 75 "KinLedgerModel" "tables" "I", .fieldLink RX5 71 "KinLedgerModel" "code" "I", .fieldLink RX5 7 "KinLedgerModel" "columns" "[I"] ++ wsX50)
def wsX5_find : List Cond := .code yX5_find cX5_find 5 (some .int) :: ([.fieldLink RX5 82 "KinLedgerModel" "rows" "I", .fieldLink RX5 13 "KinLedgerModel" "of" "[I", .fieldLink RX5 16 "KinLedgerModel" "cells" "[I"] ++ wsX50)
def wsX5_breaksLink : List Cond := .code yX5_breaksLink cX5_breaksLink 4 (some .boolean) :: ([.fieldLink RX5 82 "KinLedgerModel" "rows" "I", .fieldLink RX5 16 "KinLedgerModel" "cells" "[I", .fieldLink RX5 32 "KinLedgerModel" "linkColumn" "[I", .fieldLink RX5 13 "KinLedgerModel" "of" "[I", .fieldLink RX5 29 "KinLedgerModel" "child" "[I", .fieldLink RX5 35 "KinLedgerModel" "parent" "[I", .methodLink RX5 85 yX5_find, .instanceMethod yX5_find, .selects RX5 yX5_find yX5_find, .initialized RX5, .code yX5_find cX5_find 5 (some .int)] ++ wsX50)
def wsX5_twice : List Cond := .code yX5_twice cX5_twice 5 (some .boolean) :: ([.fieldLink RX5 82 "KinLedgerModel" "rows" "I", .fieldLink RX5 13 "KinLedgerModel" "of" "[I", .fieldLink RX5 16 "KinLedgerModel" "cells" "[I"] ++ wsX50)
def wsX5_reckon : List Cond := .code yX5_reckon cX5_reckon 3 (some .int) :: ([])
def wsX5_result : List Cond := .code yX5_result cX5_result 5 (some .int) :: ([.fieldLink RX5 89 "KinLedgerModel" "high" "I", .fieldLink RX5 50 "KinLedgerModel" "checkLength" "[I", .fieldLink RX5 53 "KinLedgerModel" "checkWords" "[I", .fieldLink RX5 59 "KinLedgerModel" "pile" "[I", .fieldLink RX5 16 "KinLedgerModel" "cells" "[I", .methodLink RX5 92 yX5_reckon, .static yX5_reckon, .initialized RX5, .code yX5_reckon cX5_reckon 3 (some .int)] ++ wsX50)
def wsX5_breaksCheck : List Cond := .code yX5_breaksCheck cX5_breaksCheck 4 (some .boolean) :: ([.fieldLink RX5 82 "KinLedgerModel" "rows" "I", .fieldLink RX5 13 "KinLedgerModel" "of" "[I", .fieldLink RX5 47 "KinLedgerModel" "checkTable" "[I", .methodLink RX5 96 yX5_result, .instanceMethod yX5_result, .selects RX5 yX5_result yX5_result, .initialized RX5, .code yX5_result cX5_result 5 (some .int), .fieldLink RX5 89 "KinLedgerModel" "high" "I", .fieldLink RX5 50 "KinLedgerModel" "checkLength" "[I", .fieldLink RX5 53 "KinLedgerModel" "checkWords" "[I", .fieldLink RX5 59 "KinLedgerModel" "pile" "[I", .fieldLink RX5 16 "KinLedgerModel" "cells" "[I", .methodLink RX5 92 yX5_reckon, .static yX5_reckon, .code yX5_reckon cX5_reckon 3 (some .int)] ++ wsX50)
def wsX5_wrong_r1 : List Cond := [Cond.fieldLink RX5 75 "KinLedgerModel" "tables" "I", Cond.fieldLink RX5 103 "KinLedgerModel" "singles" "I", Cond.fieldLink RX5 41 "KinLedgerModel" "singleTable" "[I", Cond.fieldLink RX5 44 "KinLedgerModel" "singleColumn" "[I", Cond.fieldLink RX5 106 "KinLedgerModel" "links" "I", Cond.fieldLink RX5 112 "KinLedgerModel" "checks" "I", Cond.methodLink RX5 99 yX5_twice, Cond.instanceMethod yX5_twice, Cond.selects RX5 yX5_twice yX5_twice, Cond.initialized RX5, Cond.code yX5_twice cX5_twice 5 (some .boolean), Cond.fieldLink RX5 82 "KinLedgerModel" "rows" "I", Cond.fieldLink RX5 13 "KinLedgerModel" "of" "[I", Cond.fieldLink RX5 16 "KinLedgerModel" "cells" "[I", Cond.methodLink RX5 109 yX5_breaksLink, Cond.instanceMethod yX5_breaksLink, Cond.selects RX5 yX5_breaksLink yX5_breaksLink, Cond.code yX5_breaksLink cX5_breaksLink 4 (some .boolean), Cond.fieldLink RX5 32 "KinLedgerModel" "linkColumn" "[I", Cond.fieldLink RX5 29 "KinLedgerModel" "child" "[I", Cond.fieldLink RX5 35 "KinLedgerModel" "parent" "[I", Cond.methodLink RX5 85 yX5_find, Cond.instanceMethod yX5_find, Cond.selects RX5 yX5_find yX5_find]
def wsX5_wrong_r2 : List Cond := [Cond.code yX5_find cX5_find 5 (some .int), Cond.methodLink RX5 115 yX5_breaksCheck, Cond.instanceMethod yX5_breaksCheck, Cond.selects RX5 yX5_breaksCheck yX5_breaksCheck, Cond.code yX5_breaksCheck cX5_breaksCheck 4 (some .boolean), Cond.fieldLink RX5 47 "KinLedgerModel" "checkTable" "[I", Cond.methodLink RX5 96 yX5_result, Cond.instanceMethod yX5_result, Cond.selects RX5 yX5_result yX5_result, Cond.code yX5_result cX5_result 5 (some .int), Cond.fieldLink RX5 89 "KinLedgerModel" "high" "I", Cond.fieldLink RX5 50 "KinLedgerModel" "checkLength" "[I", Cond.fieldLink RX5 53 "KinLedgerModel" "checkWords" "[I", Cond.fieldLink RX5 59 "KinLedgerModel" "pile" "[I", Cond.methodLink RX5 92 yX5_reckon, Cond.static yX5_reckon, Cond.code yX5_reckon cX5_reckon 3 (some .int)]
def wsX5_wrong : List Cond := .code yX5_wrong cX5_wrong 2 (some .int) :: ((wsX5_wrong_r1 ++ wsX5_wrong_r2) ++ wsX50)
def wsX5_link_r1 : List Cond := [Cond.fieldLink RX5 106 "KinLedgerModel" "links" "I", Cond.fieldLink RX5 71 "KinLedgerModel" "code" "I", Cond.fieldLink RX5 29 "KinLedgerModel" "child" "[I", Cond.fieldLink RX5 32 "KinLedgerModel" "linkColumn" "[I", Cond.fieldLink RX5 35 "KinLedgerModel" "parent" "[I", Cond.fieldLink RX5 38 "KinLedgerModel" "ways" "[I", Cond.fieldLink RX5 121 "KinLedgerModel" "reason" "I", Cond.methodLink RX5 118 yX5_isColumn, Cond.instanceMethod yX5_isColumn, Cond.selects RX5 yX5_isColumn yX5_isColumn, Cond.initialized RX5, Cond.code yX5_isColumn cX5_isColumn 3 (some .boolean), Cond.fieldLink RX5 7 "KinLedgerModel" "columns" "[I", Cond.methodLink RX5 78 yX5_isTable, Cond.instanceMethod yX5_isTable, Cond.selects RX5 yX5_isTable yX5_isTable, Cond.code yX5_isTable cX5_isTable 2 (some .boolean), Cond.fieldLink RX5 75 "KinLedgerModel" "tables" "I", Cond.methodLink RX5 109 yX5_breaksLink, Cond.instanceMethod yX5_breaksLink, Cond.selects RX5 yX5_breaksLink yX5_breaksLink, Cond.code yX5_breaksLink cX5_breaksLink 4 (some .boolean), Cond.fieldLink RX5 82 "KinLedgerModel" "rows" "I", Cond.fieldLink RX5 16 "KinLedgerModel" "cells" "[I"]
def wsX5_link_r2 : List Cond := [Cond.fieldLink RX5 13 "KinLedgerModel" "of" "[I", Cond.methodLink RX5 85 yX5_find, Cond.instanceMethod yX5_find, Cond.selects RX5 yX5_find yX5_find, Cond.code yX5_find cX5_find 5 (some .int)]
def wsX5_link : List Cond := .code yX5_link cX5_link 5 (some .int) :: ((wsX5_link_r1 ++ wsX5_link_r2) ++ wsX50)
def wsX5_single : List Cond := .code yX5_single cX5_single 3 (some .int) :: ([.fieldLink RX5 103 "KinLedgerModel" "singles" "I", .fieldLink RX5 71 "KinLedgerModel" "code" "I", .fieldLink RX5 121 "KinLedgerModel" "reason" "I", .fieldLink RX5 41 "KinLedgerModel" "singleTable" "[I", .fieldLink RX5 44 "KinLedgerModel" "singleColumn" "[I", .methodLink RX5 118 yX5_isColumn, .instanceMethod yX5_isColumn, .selects RX5 yX5_isColumn yX5_isColumn, .initialized RX5, .code yX5_isColumn cX5_isColumn 3 (some .boolean), .fieldLink RX5 7 "KinLedgerModel" "columns" "[I", .methodLink RX5 78 yX5_isTable, .instanceMethod yX5_isTable, .selects RX5 yX5_isTable yX5_isTable, .code yX5_isTable cX5_isTable 2 (some .boolean), .fieldLink RX5 75 "KinLedgerModel" "tables" "I", .methodLink RX5 99 yX5_twice, .instanceMethod yX5_twice, .selects RX5 yX5_twice yX5_twice, .code yX5_twice cX5_twice 5 (some .boolean), .fieldLink RX5 82 "KinLedgerModel" "rows" "I", .fieldLink RX5 13 "KinLedgerModel" "of" "[I", .fieldLink RX5 16 "KinLedgerModel" "cells" "[I"] ++ wsX50)
def wsX5_word : List Cond := .code yX5_word cX5_word 3 (some .int) :: ([.fieldLink RX5 124 "KinLedgerModel" "waiting" "I", .fieldLink RX5 71 "KinLedgerModel" "code" "I", .fieldLink RX5 56 "KinLedgerModel" "words" "[I"] ++ wsX50)
def wsX5_isRight : List Cond := .code yX5_isRight cX5_isRight 8 (some .boolean) :: ([.fieldLink RX5 124 "KinLedgerModel" "waiting" "I", .fieldLink RX5 56 "KinLedgerModel" "words" "[I", .fieldLink RX5 7 "KinLedgerModel" "columns" "[I"] ++ wsX50)
def wsX5_check_r1 : List Cond := [Cond.fieldLink RX5 71 "KinLedgerModel" "code" "I", Cond.fieldLink RX5 124 "KinLedgerModel" "waiting" "I", Cond.fieldLink RX5 112 "KinLedgerModel" "checks" "I", Cond.fieldLink RX5 47 "KinLedgerModel" "checkTable" "[I", Cond.fieldLink RX5 50 "KinLedgerModel" "checkLength" "[I", Cond.fieldLink RX5 53 "KinLedgerModel" "checkWords" "[I", Cond.fieldLink RX5 56 "KinLedgerModel" "words" "[I", Cond.fieldLink RX5 121 "KinLedgerModel" "reason" "I", Cond.methodLink RX5 78 yX5_isTable, Cond.instanceMethod yX5_isTable, Cond.selects RX5 yX5_isTable yX5_isTable, Cond.initialized RX5, Cond.code yX5_isTable cX5_isTable 2 (some .boolean), Cond.fieldLink RX5 75 "KinLedgerModel" "tables" "I", Cond.methodLink RX5 127 yX5_isRight, Cond.instanceMethod yX5_isRight, Cond.selects RX5 yX5_isRight yX5_isRight, Cond.code yX5_isRight cX5_isRight 8 (some .boolean), Cond.fieldLink RX5 7 "KinLedgerModel" "columns" "[I", Cond.methodLink RX5 115 yX5_breaksCheck, Cond.instanceMethod yX5_breaksCheck, Cond.selects RX5 yX5_breaksCheck yX5_breaksCheck, Cond.code yX5_breaksCheck cX5_breaksCheck 4 (some .boolean), Cond.fieldLink RX5 82 "KinLedgerModel" "rows" "I"]
def wsX5_check_r2 : List Cond := [Cond.fieldLink RX5 13 "KinLedgerModel" "of" "[I", Cond.methodLink RX5 96 yX5_result, Cond.instanceMethod yX5_result, Cond.selects RX5 yX5_result yX5_result, Cond.code yX5_result cX5_result 5 (some .int), Cond.fieldLink RX5 89 "KinLedgerModel" "high" "I", Cond.fieldLink RX5 59 "KinLedgerModel" "pile" "[I", Cond.fieldLink RX5 16 "KinLedgerModel" "cells" "[I", Cond.methodLink RX5 92 yX5_reckon, Cond.static yX5_reckon, Cond.code yX5_reckon cX5_reckon 3 (some .int)]
def wsX5_check : List Cond := .code yX5_check cX5_check 5 (some .int) :: ((wsX5_check_r1 ++ wsX5_check_r2) ++ wsX50)
def wsX5_remember : List Cond := .code yX5_remember cX5_remember 2 none :: ([.fieldLink RX5 82 "KinLedgerModel" "rows" "I", .fieldLink RX5 130 "KinLedgerModel" "oldRows" "I", .fieldLink RX5 19 "KinLedgerModel" "oldOf" "[I", .fieldLink RX5 13 "KinLedgerModel" "of" "[I", .fieldLink RX5 25 "KinLedgerModel" "gone" "[Z", .fieldLink RX5 22 "KinLedgerModel" "old" "[I", .fieldLink RX5 16 "KinLedgerModel" "cells" "[I"] ++ wsX50)
def wsX5_restore : List Cond := .code yX5_restore cX5_restore 2 none :: ([.fieldLink RX5 130 "KinLedgerModel" "oldRows" "I", .fieldLink RX5 82 "KinLedgerModel" "rows" "I", .fieldLink RX5 13 "KinLedgerModel" "of" "[I", .fieldLink RX5 19 "KinLedgerModel" "oldOf" "[I", .fieldLink RX5 16 "KinLedgerModel" "cells" "[I", .fieldLink RX5 22 "KinLedgerModel" "old" "[I"] ++ wsX50)
def wsX5_settle_r1 : List Cond := [Cond.fieldLink RX5 121 "KinLedgerModel" "reason" "I", Cond.methodLink RX5 133 yX5_wrong, Cond.instanceMethod yX5_wrong, Cond.selects RX5 yX5_wrong yX5_wrong, Cond.initialized RX5, Cond.code yX5_wrong cX5_wrong 2 (some .int), Cond.fieldLink RX5 75 "KinLedgerModel" "tables" "I", Cond.fieldLink RX5 103 "KinLedgerModel" "singles" "I", Cond.fieldLink RX5 41 "KinLedgerModel" "singleTable" "[I", Cond.fieldLink RX5 44 "KinLedgerModel" "singleColumn" "[I", Cond.fieldLink RX5 106 "KinLedgerModel" "links" "I", Cond.fieldLink RX5 112 "KinLedgerModel" "checks" "I", Cond.methodLink RX5 99 yX5_twice, Cond.instanceMethod yX5_twice, Cond.selects RX5 yX5_twice yX5_twice, Cond.code yX5_twice cX5_twice 5 (some .boolean), Cond.fieldLink RX5 82 "KinLedgerModel" "rows" "I", Cond.fieldLink RX5 13 "KinLedgerModel" "of" "[I", Cond.fieldLink RX5 16 "KinLedgerModel" "cells" "[I", Cond.methodLink RX5 109 yX5_breaksLink, Cond.instanceMethod yX5_breaksLink, Cond.selects RX5 yX5_breaksLink yX5_breaksLink, Cond.code yX5_breaksLink cX5_breaksLink 4 (some .boolean), Cond.fieldLink RX5 32 "KinLedgerModel" "linkColumn" "[I"]
def wsX5_settle_r2 : List Cond := [Cond.fieldLink RX5 29 "KinLedgerModel" "child" "[I", Cond.fieldLink RX5 35 "KinLedgerModel" "parent" "[I", Cond.methodLink RX5 85 yX5_find, Cond.instanceMethod yX5_find, Cond.selects RX5 yX5_find yX5_find, Cond.code yX5_find cX5_find 5 (some .int), Cond.methodLink RX5 115 yX5_breaksCheck, Cond.instanceMethod yX5_breaksCheck, Cond.selects RX5 yX5_breaksCheck yX5_breaksCheck, Cond.code yX5_breaksCheck cX5_breaksCheck 4 (some .boolean), Cond.fieldLink RX5 47 "KinLedgerModel" "checkTable" "[I", Cond.methodLink RX5 96 yX5_result, Cond.instanceMethod yX5_result, Cond.selects RX5 yX5_result yX5_result, Cond.code yX5_result cX5_result 5 (some .int), Cond.fieldLink RX5 89 "KinLedgerModel" "high" "I", Cond.fieldLink RX5 50 "KinLedgerModel" "checkLength" "[I", Cond.fieldLink RX5 53 "KinLedgerModel" "checkWords" "[I", Cond.fieldLink RX5 59 "KinLedgerModel" "pile" "[I", Cond.methodLink RX5 92 yX5_reckon, Cond.static yX5_reckon, Cond.code yX5_reckon cX5_reckon 3 (some .int), Cond.methodLink RX5 137 yX5_restore, Cond.instanceMethod yX5_restore]
def wsX5_settle_r3 : List Cond := [Cond.selects RX5 yX5_restore yX5_restore, Cond.code yX5_restore cX5_restore 2 none, Cond.fieldLink RX5 130 "KinLedgerModel" "oldRows" "I", Cond.fieldLink RX5 19 "KinLedgerModel" "oldOf" "[I", Cond.fieldLink RX5 22 "KinLedgerModel" "old" "[I"]
def wsX5_settle : List Cond := .code yX5_settle cX5_settle 4 (some .int) :: ((wsX5_settle_r1 ++ (wsX5_settle_r2 ++ wsX5_settle_r3)) ++ wsX50)
def wsX5_referred : List Cond := .code yX5_referred cX5_referred 5 (some .boolean) :: ([.fieldLink RX5 22 "KinLedgerModel" "old" "[I", .fieldLink RX5 32 "KinLedgerModel" "linkColumn" "[I", .fieldLink RX5 19 "KinLedgerModel" "oldOf" "[I", .fieldLink RX5 29 "KinLedgerModel" "child" "[I", .fieldLink RX5 35 "KinLedgerModel" "parent" "[I"] ++ wsX50)
def wsX5_insert_r1 : List Cond := [Cond.fieldLink RX5 82 "KinLedgerModel" "rows" "I", Cond.fieldLink RX5 71 "KinLedgerModel" "code" "I", Cond.fieldLink RX5 13 "KinLedgerModel" "of" "[I", Cond.fieldLink RX5 16 "KinLedgerModel" "cells" "[I", Cond.fieldLink RX5 7 "KinLedgerModel" "columns" "[I", Cond.methodLink RX5 78 yX5_isTable, Cond.instanceMethod yX5_isTable, Cond.selects RX5 yX5_isTable yX5_isTable, Cond.initialized RX5, Cond.code yX5_isTable cX5_isTable 2 (some .boolean), Cond.fieldLink RX5 75 "KinLedgerModel" "tables" "I", Cond.methodLink RX5 140 yX5_remember, Cond.instanceMethod yX5_remember, Cond.selects RX5 yX5_remember yX5_remember, Cond.code yX5_remember cX5_remember 2 none, Cond.fieldLink RX5 130 "KinLedgerModel" "oldRows" "I", Cond.fieldLink RX5 19 "KinLedgerModel" "oldOf" "[I", Cond.fieldLink RX5 25 "KinLedgerModel" "gone" "[Z", Cond.fieldLink RX5 22 "KinLedgerModel" "old" "[I", Cond.methodLink RX5 143 yX5_settle, Cond.instanceMethod yX5_settle, Cond.selects RX5 yX5_settle yX5_settle, Cond.code yX5_settle cX5_settle 4 (some .int), Cond.fieldLink RX5 121 "KinLedgerModel" "reason" "I"]
def wsX5_insert_r2 : List Cond := [Cond.methodLink RX5 133 yX5_wrong, Cond.instanceMethod yX5_wrong, Cond.selects RX5 yX5_wrong yX5_wrong, Cond.code yX5_wrong cX5_wrong 2 (some .int), Cond.fieldLink RX5 103 "KinLedgerModel" "singles" "I", Cond.fieldLink RX5 41 "KinLedgerModel" "singleTable" "[I", Cond.fieldLink RX5 44 "KinLedgerModel" "singleColumn" "[I", Cond.fieldLink RX5 106 "KinLedgerModel" "links" "I", Cond.fieldLink RX5 112 "KinLedgerModel" "checks" "I", Cond.methodLink RX5 99 yX5_twice, Cond.instanceMethod yX5_twice, Cond.selects RX5 yX5_twice yX5_twice, Cond.code yX5_twice cX5_twice 5 (some .boolean), Cond.methodLink RX5 109 yX5_breaksLink, Cond.instanceMethod yX5_breaksLink, Cond.selects RX5 yX5_breaksLink yX5_breaksLink, Cond.code yX5_breaksLink cX5_breaksLink 4 (some .boolean), Cond.fieldLink RX5 32 "KinLedgerModel" "linkColumn" "[I", Cond.fieldLink RX5 29 "KinLedgerModel" "child" "[I", Cond.fieldLink RX5 35 "KinLedgerModel" "parent" "[I", Cond.methodLink RX5 85 yX5_find, Cond.instanceMethod yX5_find, Cond.selects RX5 yX5_find yX5_find, Cond.code yX5_find cX5_find 5 (some .int)]
def wsX5_insert_r3 : List Cond := [Cond.methodLink RX5 115 yX5_breaksCheck, Cond.instanceMethod yX5_breaksCheck, Cond.selects RX5 yX5_breaksCheck yX5_breaksCheck, Cond.code yX5_breaksCheck cX5_breaksCheck 4 (some .boolean), Cond.fieldLink RX5 47 "KinLedgerModel" "checkTable" "[I", Cond.methodLink RX5 96 yX5_result, Cond.instanceMethod yX5_result, Cond.selects RX5 yX5_result yX5_result, Cond.code yX5_result cX5_result 5 (some .int), Cond.fieldLink RX5 89 "KinLedgerModel" "high" "I", Cond.fieldLink RX5 50 "KinLedgerModel" "checkLength" "[I", Cond.fieldLink RX5 53 "KinLedgerModel" "checkWords" "[I", Cond.fieldLink RX5 59 "KinLedgerModel" "pile" "[I", Cond.methodLink RX5 92 yX5_reckon, Cond.static yX5_reckon, Cond.code yX5_reckon cX5_reckon 3 (some .int), Cond.methodLink RX5 137 yX5_restore, Cond.instanceMethod yX5_restore, Cond.selects RX5 yX5_restore yX5_restore, Cond.code yX5_restore cX5_restore 2 none]
def wsX5_insert : List Cond := .code yX5_insert cX5_insert 6 none :: ((wsX5_insert_r1 ++ (wsX5_insert_r2 ++ wsX5_insert_r3)) ++ wsX50)
def wsX5_spread : List Cond := .code yX5_spread cX5_spread 5 none :: ([.fieldLink RX5 106 "KinLedgerModel" "links" "I", .fieldLink RX5 82 "KinLedgerModel" "rows" "I", .fieldLink RX5 38 "KinLedgerModel" "ways" "[I", .fieldLink RX5 25 "KinLedgerModel" "gone" "[Z", .methodLink RX5 146 yX5_referred, .instanceMethod yX5_referred, .selects RX5 yX5_referred yX5_referred, .initialized RX5, .code yX5_referred cX5_referred 5 (some .boolean), .fieldLink RX5 22 "KinLedgerModel" "old" "[I", .fieldLink RX5 32 "KinLedgerModel" "linkColumn" "[I", .fieldLink RX5 19 "KinLedgerModel" "oldOf" "[I", .fieldLink RX5 29 "KinLedgerModel" "child" "[I", .fieldLink RX5 35 "KinLedgerModel" "parent" "[I"] ++ wsX50)
def wsX5_loosen : List Cond := .code yX5_loosen cX5_loosen 6 (some .int) :: ([.fieldLink RX5 106 "KinLedgerModel" "links" "I", .fieldLink RX5 82 "KinLedgerModel" "rows" "I", .fieldLink RX5 25 "KinLedgerModel" "gone" "[Z", .fieldLink RX5 38 "KinLedgerModel" "ways" "[I", .fieldLink RX5 16 "KinLedgerModel" "cells" "[I", .fieldLink RX5 32 "KinLedgerModel" "linkColumn" "[I", .methodLink RX5 146 yX5_referred, .instanceMethod yX5_referred, .selects RX5 yX5_referred yX5_referred, .initialized RX5, .code yX5_referred cX5_referred 5 (some .boolean), .fieldLink RX5 22 "KinLedgerModel" "old" "[I", .fieldLink RX5 19 "KinLedgerModel" "oldOf" "[I", .fieldLink RX5 29 "KinLedgerModel" "child" "[I", .fieldLink RX5 35 "KinLedgerModel" "parent" "[I"] ++ wsX50)
def wsX5_delete_r1 : List Cond := [Cond.fieldLink RX5 71 "KinLedgerModel" "code" "I", Cond.fieldLink RX5 82 "KinLedgerModel" "rows" "I", Cond.fieldLink RX5 25 "KinLedgerModel" "gone" "[Z", Cond.fieldLink RX5 13 "KinLedgerModel" "of" "[I", Cond.fieldLink RX5 16 "KinLedgerModel" "cells" "[I", Cond.fieldLink RX5 130 "KinLedgerModel" "oldRows" "I", Cond.methodLink RX5 118 yX5_isColumn, Cond.instanceMethod yX5_isColumn, Cond.selects RX5 yX5_isColumn yX5_isColumn, Cond.initialized RX5, Cond.code yX5_isColumn cX5_isColumn 3 (some .boolean), Cond.fieldLink RX5 7 "KinLedgerModel" "columns" "[I", Cond.methodLink RX5 78 yX5_isTable, Cond.instanceMethod yX5_isTable, Cond.selects RX5 yX5_isTable yX5_isTable, Cond.code yX5_isTable cX5_isTable 2 (some .boolean), Cond.fieldLink RX5 75 "KinLedgerModel" "tables" "I", Cond.methodLink RX5 140 yX5_remember, Cond.instanceMethod yX5_remember, Cond.selects RX5 yX5_remember yX5_remember, Cond.code yX5_remember cX5_remember 2 none, Cond.fieldLink RX5 19 "KinLedgerModel" "oldOf" "[I", Cond.fieldLink RX5 22 "KinLedgerModel" "old" "[I", Cond.methodLink RX5 150 yX5_spread]
def wsX5_delete_r2 : List Cond := [Cond.instanceMethod yX5_spread, Cond.selects RX5 yX5_spread yX5_spread, Cond.code yX5_spread cX5_spread 5 none, Cond.fieldLink RX5 106 "KinLedgerModel" "links" "I", Cond.fieldLink RX5 38 "KinLedgerModel" "ways" "[I", Cond.methodLink RX5 146 yX5_referred, Cond.instanceMethod yX5_referred, Cond.selects RX5 yX5_referred yX5_referred, Cond.code yX5_referred cX5_referred 5 (some .boolean), Cond.fieldLink RX5 32 "KinLedgerModel" "linkColumn" "[I", Cond.fieldLink RX5 29 "KinLedgerModel" "child" "[I", Cond.fieldLink RX5 35 "KinLedgerModel" "parent" "[I", Cond.methodLink RX5 153 yX5_loosen, Cond.instanceMethod yX5_loosen, Cond.selects RX5 yX5_loosen yX5_loosen, Cond.code yX5_loosen cX5_loosen 6 (some .int), Cond.methodLink RX5 143 yX5_settle, Cond.instanceMethod yX5_settle, Cond.selects RX5 yX5_settle yX5_settle, Cond.code yX5_settle cX5_settle 4 (some .int), Cond.fieldLink RX5 121 "KinLedgerModel" "reason" "I", Cond.methodLink RX5 133 yX5_wrong, Cond.instanceMethod yX5_wrong, Cond.selects RX5 yX5_wrong yX5_wrong]
def wsX5_delete_r3 : List Cond := [Cond.code yX5_wrong cX5_wrong 2 (some .int), Cond.fieldLink RX5 103 "KinLedgerModel" "singles" "I", Cond.fieldLink RX5 41 "KinLedgerModel" "singleTable" "[I", Cond.fieldLink RX5 44 "KinLedgerModel" "singleColumn" "[I", Cond.fieldLink RX5 112 "KinLedgerModel" "checks" "I", Cond.methodLink RX5 99 yX5_twice, Cond.instanceMethod yX5_twice, Cond.selects RX5 yX5_twice yX5_twice, Cond.code yX5_twice cX5_twice 5 (some .boolean), Cond.methodLink RX5 109 yX5_breaksLink, Cond.instanceMethod yX5_breaksLink, Cond.selects RX5 yX5_breaksLink yX5_breaksLink, Cond.code yX5_breaksLink cX5_breaksLink 4 (some .boolean), Cond.methodLink RX5 85 yX5_find, Cond.instanceMethod yX5_find, Cond.selects RX5 yX5_find yX5_find, Cond.code yX5_find cX5_find 5 (some .int), Cond.methodLink RX5 115 yX5_breaksCheck, Cond.instanceMethod yX5_breaksCheck, Cond.selects RX5 yX5_breaksCheck yX5_breaksCheck, Cond.code yX5_breaksCheck cX5_breaksCheck 4 (some .boolean), Cond.fieldLink RX5 47 "KinLedgerModel" "checkTable" "[I", Cond.methodLink RX5 96 yX5_result, Cond.instanceMethod yX5_result]
def wsX5_delete_r4 : List Cond := [Cond.selects RX5 yX5_result yX5_result, Cond.code yX5_result cX5_result 5 (some .int), Cond.fieldLink RX5 89 "KinLedgerModel" "high" "I", Cond.fieldLink RX5 50 "KinLedgerModel" "checkLength" "[I", Cond.fieldLink RX5 53 "KinLedgerModel" "checkWords" "[I", Cond.fieldLink RX5 59 "KinLedgerModel" "pile" "[I", Cond.methodLink RX5 92 yX5_reckon, Cond.static yX5_reckon, Cond.code yX5_reckon cX5_reckon 3 (some .int), Cond.methodLink RX5 137 yX5_restore, Cond.instanceMethod yX5_restore, Cond.selects RX5 yX5_restore yX5_restore, Cond.code yX5_restore cX5_restore 2 none]
def wsX5_delete : List Cond := .code yX5_delete cX5_delete 8 (some .int) :: ((wsX5_delete_r1 ++ (wsX5_delete_r2 ++ (wsX5_delete_r3 ++ wsX5_delete_r4))) ++ wsX50)
def wsX5_rename : List Cond := .code yX5_rename cX5_rename 7 (some .int) :: ([.fieldLink RX5 16 "KinLedgerModel" "cells" "[I", .fieldLink RX5 106 "KinLedgerModel" "links" "I", .fieldLink RX5 82 "KinLedgerModel" "rows" "I", .fieldLink RX5 38 "KinLedgerModel" "ways" "[I", .fieldLink RX5 32 "KinLedgerModel" "linkColumn" "[I", .methodLink RX5 146 yX5_referred, .instanceMethod yX5_referred, .selects RX5 yX5_referred yX5_referred, .initialized RX5, .code yX5_referred cX5_referred 5 (some .boolean), .fieldLink RX5 22 "KinLedgerModel" "old" "[I", .fieldLink RX5 19 "KinLedgerModel" "oldOf" "[I", .fieldLink RX5 29 "KinLedgerModel" "child" "[I", .fieldLink RX5 35 "KinLedgerModel" "parent" "[I"] ++ wsX50)
def wsX5_update_r1 : List Cond := [Cond.fieldLink RX5 71 "KinLedgerModel" "code" "I", Cond.fieldLink RX5 16 "KinLedgerModel" "cells" "[I", Cond.methodLink RX5 118 yX5_isColumn, Cond.instanceMethod yX5_isColumn, Cond.selects RX5 yX5_isColumn yX5_isColumn, Cond.initialized RX5, Cond.code yX5_isColumn cX5_isColumn 3 (some .boolean), Cond.fieldLink RX5 7 "KinLedgerModel" "columns" "[I", Cond.methodLink RX5 78 yX5_isTable, Cond.instanceMethod yX5_isTable, Cond.selects RX5 yX5_isTable yX5_isTable, Cond.code yX5_isTable cX5_isTable 2 (some .boolean), Cond.fieldLink RX5 75 "KinLedgerModel" "tables" "I", Cond.methodLink RX5 85 yX5_find, Cond.instanceMethod yX5_find, Cond.selects RX5 yX5_find yX5_find, Cond.code yX5_find cX5_find 5 (some .int), Cond.fieldLink RX5 82 "KinLedgerModel" "rows" "I", Cond.fieldLink RX5 13 "KinLedgerModel" "of" "[I", Cond.methodLink RX5 140 yX5_remember, Cond.instanceMethod yX5_remember, Cond.selects RX5 yX5_remember yX5_remember, Cond.code yX5_remember cX5_remember 2 none, Cond.fieldLink RX5 130 "KinLedgerModel" "oldRows" "I"]
def wsX5_update_r2 : List Cond := [Cond.fieldLink RX5 19 "KinLedgerModel" "oldOf" "[I", Cond.fieldLink RX5 25 "KinLedgerModel" "gone" "[Z", Cond.fieldLink RX5 22 "KinLedgerModel" "old" "[I", Cond.methodLink RX5 156 yX5_rename, Cond.instanceMethod yX5_rename, Cond.selects RX5 yX5_rename yX5_rename, Cond.code yX5_rename cX5_rename 7 (some .int), Cond.fieldLink RX5 106 "KinLedgerModel" "links" "I", Cond.fieldLink RX5 38 "KinLedgerModel" "ways" "[I", Cond.fieldLink RX5 32 "KinLedgerModel" "linkColumn" "[I", Cond.methodLink RX5 146 yX5_referred, Cond.instanceMethod yX5_referred, Cond.selects RX5 yX5_referred yX5_referred, Cond.code yX5_referred cX5_referred 5 (some .boolean), Cond.fieldLink RX5 29 "KinLedgerModel" "child" "[I", Cond.fieldLink RX5 35 "KinLedgerModel" "parent" "[I", Cond.methodLink RX5 143 yX5_settle, Cond.instanceMethod yX5_settle, Cond.selects RX5 yX5_settle yX5_settle, Cond.code yX5_settle cX5_settle 4 (some .int), Cond.fieldLink RX5 121 "KinLedgerModel" "reason" "I", Cond.methodLink RX5 133 yX5_wrong, Cond.instanceMethod yX5_wrong, Cond.selects RX5 yX5_wrong yX5_wrong]
def wsX5_update_r3 : List Cond := [Cond.code yX5_wrong cX5_wrong 2 (some .int), Cond.fieldLink RX5 103 "KinLedgerModel" "singles" "I", Cond.fieldLink RX5 41 "KinLedgerModel" "singleTable" "[I", Cond.fieldLink RX5 44 "KinLedgerModel" "singleColumn" "[I", Cond.fieldLink RX5 112 "KinLedgerModel" "checks" "I", Cond.methodLink RX5 99 yX5_twice, Cond.instanceMethod yX5_twice, Cond.selects RX5 yX5_twice yX5_twice, Cond.code yX5_twice cX5_twice 5 (some .boolean), Cond.methodLink RX5 109 yX5_breaksLink, Cond.instanceMethod yX5_breaksLink, Cond.selects RX5 yX5_breaksLink yX5_breaksLink, Cond.code yX5_breaksLink cX5_breaksLink 4 (some .boolean), Cond.methodLink RX5 115 yX5_breaksCheck, Cond.instanceMethod yX5_breaksCheck, Cond.selects RX5 yX5_breaksCheck yX5_breaksCheck, Cond.code yX5_breaksCheck cX5_breaksCheck 4 (some .boolean), Cond.fieldLink RX5 47 "KinLedgerModel" "checkTable" "[I", Cond.methodLink RX5 96 yX5_result, Cond.instanceMethod yX5_result, Cond.selects RX5 yX5_result yX5_result, Cond.code yX5_result cX5_result 5 (some .int), Cond.fieldLink RX5 89 "KinLedgerModel" "high" "I", Cond.fieldLink RX5 50 "KinLedgerModel" "checkLength" "[I"]
def wsX5_update_r4 : List Cond := [Cond.fieldLink RX5 53 "KinLedgerModel" "checkWords" "[I", Cond.fieldLink RX5 59 "KinLedgerModel" "pile" "[I", Cond.methodLink RX5 92 yX5_reckon, Cond.static yX5_reckon, Cond.code yX5_reckon cX5_reckon 3 (some .int), Cond.methodLink RX5 137 yX5_restore, Cond.instanceMethod yX5_restore, Cond.selects RX5 yX5_restore yX5_restore, Cond.code yX5_restore cX5_restore 2 none]
def wsX5_update : List Cond := .code yX5_update cX5_update 8 (some .int) :: ((wsX5_update_r1 ++ (wsX5_update_r2 ++ (wsX5_update_r3 ++ wsX5_update_r4))) ++ wsX50)
def wsX5_shift_r1 : List Cond := [Cond.fieldLink RX5 71 "KinLedgerModel" "code" "I", Cond.fieldLink RX5 82 "KinLedgerModel" "rows" "I", Cond.fieldLink RX5 13 "KinLedgerModel" "of" "[I", Cond.fieldLink RX5 16 "KinLedgerModel" "cells" "[I", Cond.methodLink RX5 118 yX5_isColumn, Cond.instanceMethod yX5_isColumn, Cond.selects RX5 yX5_isColumn yX5_isColumn, Cond.initialized RX5, Cond.code yX5_isColumn cX5_isColumn 3 (some .boolean), Cond.fieldLink RX5 7 "KinLedgerModel" "columns" "[I", Cond.methodLink RX5 78 yX5_isTable, Cond.instanceMethod yX5_isTable, Cond.selects RX5 yX5_isTable yX5_isTable, Cond.code yX5_isTable cX5_isTable 2 (some .boolean), Cond.fieldLink RX5 75 "KinLedgerModel" "tables" "I", Cond.methodLink RX5 140 yX5_remember, Cond.instanceMethod yX5_remember, Cond.selects RX5 yX5_remember yX5_remember, Cond.code yX5_remember cX5_remember 2 none, Cond.fieldLink RX5 130 "KinLedgerModel" "oldRows" "I", Cond.fieldLink RX5 19 "KinLedgerModel" "oldOf" "[I", Cond.fieldLink RX5 25 "KinLedgerModel" "gone" "[Z", Cond.fieldLink RX5 22 "KinLedgerModel" "old" "[I", Cond.methodLink RX5 143 yX5_settle]
def wsX5_shift_r2 : List Cond := [Cond.instanceMethod yX5_settle, Cond.selects RX5 yX5_settle yX5_settle, Cond.code yX5_settle cX5_settle 4 (some .int), Cond.fieldLink RX5 121 "KinLedgerModel" "reason" "I", Cond.methodLink RX5 133 yX5_wrong, Cond.instanceMethod yX5_wrong, Cond.selects RX5 yX5_wrong yX5_wrong, Cond.code yX5_wrong cX5_wrong 2 (some .int), Cond.fieldLink RX5 103 "KinLedgerModel" "singles" "I", Cond.fieldLink RX5 41 "KinLedgerModel" "singleTable" "[I", Cond.fieldLink RX5 44 "KinLedgerModel" "singleColumn" "[I", Cond.fieldLink RX5 106 "KinLedgerModel" "links" "I", Cond.fieldLink RX5 112 "KinLedgerModel" "checks" "I", Cond.methodLink RX5 99 yX5_twice, Cond.instanceMethod yX5_twice, Cond.selects RX5 yX5_twice yX5_twice, Cond.code yX5_twice cX5_twice 5 (some .boolean), Cond.methodLink RX5 109 yX5_breaksLink, Cond.instanceMethod yX5_breaksLink, Cond.selects RX5 yX5_breaksLink yX5_breaksLink, Cond.code yX5_breaksLink cX5_breaksLink 4 (some .boolean), Cond.fieldLink RX5 32 "KinLedgerModel" "linkColumn" "[I", Cond.fieldLink RX5 29 "KinLedgerModel" "child" "[I", Cond.fieldLink RX5 35 "KinLedgerModel" "parent" "[I"]
def wsX5_shift_r3 : List Cond := [Cond.methodLink RX5 85 yX5_find, Cond.instanceMethod yX5_find, Cond.selects RX5 yX5_find yX5_find, Cond.code yX5_find cX5_find 5 (some .int), Cond.methodLink RX5 115 yX5_breaksCheck, Cond.instanceMethod yX5_breaksCheck, Cond.selects RX5 yX5_breaksCheck yX5_breaksCheck, Cond.code yX5_breaksCheck cX5_breaksCheck 4 (some .boolean), Cond.fieldLink RX5 47 "KinLedgerModel" "checkTable" "[I", Cond.methodLink RX5 96 yX5_result, Cond.instanceMethod yX5_result, Cond.selects RX5 yX5_result yX5_result, Cond.code yX5_result cX5_result 5 (some .int), Cond.fieldLink RX5 89 "KinLedgerModel" "high" "I", Cond.fieldLink RX5 50 "KinLedgerModel" "checkLength" "[I", Cond.fieldLink RX5 53 "KinLedgerModel" "checkWords" "[I", Cond.fieldLink RX5 59 "KinLedgerModel" "pile" "[I", Cond.methodLink RX5 92 yX5_reckon, Cond.static yX5_reckon, Cond.code yX5_reckon cX5_reckon 3 (some .int), Cond.methodLink RX5 137 yX5_restore, Cond.instanceMethod yX5_restore, Cond.selects RX5 yX5_restore yX5_restore, Cond.code yX5_restore cX5_restore 2 none]
def wsX5_shift : List Cond := .code yX5_shift cX5_shift 6 (some .int) :: ((wsX5_shift_r1 ++ (wsX5_shift_r2 ++ wsX5_shift_r3)) ++ wsX50)
def wsX5_keep : List Cond := .code yX5_keep cX5_keep 2 (some .int) :: ([.fieldLink RX5 159 "KinLedgerModel" "kept" "I", .fieldLink RX5 71 "KinLedgerModel" "code" "I", .fieldLink RX5 62 "KinLedgerModel" "keptRows" "[I", .fieldLink RX5 82 "KinLedgerModel" "rows" "I", .fieldLink RX5 65 "KinLedgerModel" "keptOf" "[I", .fieldLink RX5 13 "KinLedgerModel" "of" "[I", .fieldLink RX5 68 "KinLedgerModel" "keptCells" "[I", .fieldLink RX5 16 "KinLedgerModel" "cells" "[I"] ++ wsX50)
def wsX5_back_r1 : List Cond := [Cond.fieldLink RX5 159 "KinLedgerModel" "kept" "I", Cond.fieldLink RX5 71 "KinLedgerModel" "code" "I", Cond.fieldLink RX5 62 "KinLedgerModel" "keptRows" "[I", Cond.fieldLink RX5 82 "KinLedgerModel" "rows" "I", Cond.fieldLink RX5 13 "KinLedgerModel" "of" "[I", Cond.fieldLink RX5 65 "KinLedgerModel" "keptOf" "[I", Cond.fieldLink RX5 16 "KinLedgerModel" "cells" "[I", Cond.fieldLink RX5 68 "KinLedgerModel" "keptCells" "[I", Cond.methodLink RX5 140 yX5_remember, Cond.instanceMethod yX5_remember, Cond.selects RX5 yX5_remember yX5_remember, Cond.initialized RX5, Cond.code yX5_remember cX5_remember 2 none, Cond.fieldLink RX5 130 "KinLedgerModel" "oldRows" "I", Cond.fieldLink RX5 19 "KinLedgerModel" "oldOf" "[I", Cond.fieldLink RX5 25 "KinLedgerModel" "gone" "[Z", Cond.fieldLink RX5 22 "KinLedgerModel" "old" "[I", Cond.methodLink RX5 143 yX5_settle, Cond.instanceMethod yX5_settle, Cond.selects RX5 yX5_settle yX5_settle, Cond.code yX5_settle cX5_settle 4 (some .int), Cond.fieldLink RX5 121 "KinLedgerModel" "reason" "I", Cond.methodLink RX5 133 yX5_wrong, Cond.instanceMethod yX5_wrong]
def wsX5_back_r2 : List Cond := [Cond.selects RX5 yX5_wrong yX5_wrong, Cond.code yX5_wrong cX5_wrong 2 (some .int), Cond.fieldLink RX5 75 "KinLedgerModel" "tables" "I", Cond.fieldLink RX5 103 "KinLedgerModel" "singles" "I", Cond.fieldLink RX5 41 "KinLedgerModel" "singleTable" "[I", Cond.fieldLink RX5 44 "KinLedgerModel" "singleColumn" "[I", Cond.fieldLink RX5 106 "KinLedgerModel" "links" "I", Cond.fieldLink RX5 112 "KinLedgerModel" "checks" "I", Cond.methodLink RX5 99 yX5_twice, Cond.instanceMethod yX5_twice, Cond.selects RX5 yX5_twice yX5_twice, Cond.code yX5_twice cX5_twice 5 (some .boolean), Cond.methodLink RX5 109 yX5_breaksLink, Cond.instanceMethod yX5_breaksLink, Cond.selects RX5 yX5_breaksLink yX5_breaksLink, Cond.code yX5_breaksLink cX5_breaksLink 4 (some .boolean), Cond.fieldLink RX5 32 "KinLedgerModel" "linkColumn" "[I", Cond.fieldLink RX5 29 "KinLedgerModel" "child" "[I", Cond.fieldLink RX5 35 "KinLedgerModel" "parent" "[I", Cond.methodLink RX5 85 yX5_find, Cond.instanceMethod yX5_find, Cond.selects RX5 yX5_find yX5_find, Cond.code yX5_find cX5_find 5 (some .int), Cond.methodLink RX5 115 yX5_breaksCheck]
def wsX5_back_r3 : List Cond := [Cond.instanceMethod yX5_breaksCheck, Cond.selects RX5 yX5_breaksCheck yX5_breaksCheck, Cond.code yX5_breaksCheck cX5_breaksCheck 4 (some .boolean), Cond.fieldLink RX5 47 "KinLedgerModel" "checkTable" "[I", Cond.methodLink RX5 96 yX5_result, Cond.instanceMethod yX5_result, Cond.selects RX5 yX5_result yX5_result, Cond.code yX5_result cX5_result 5 (some .int), Cond.fieldLink RX5 89 "KinLedgerModel" "high" "I", Cond.fieldLink RX5 50 "KinLedgerModel" "checkLength" "[I", Cond.fieldLink RX5 53 "KinLedgerModel" "checkWords" "[I", Cond.fieldLink RX5 59 "KinLedgerModel" "pile" "[I", Cond.methodLink RX5 92 yX5_reckon, Cond.static yX5_reckon, Cond.code yX5_reckon cX5_reckon 3 (some .int), Cond.methodLink RX5 137 yX5_restore, Cond.instanceMethod yX5_restore, Cond.selects RX5 yX5_restore yX5_restore, Cond.code yX5_restore cX5_restore 2 none]
def wsX5_back : List Cond := .code yX5_back cX5_back 3 (some .int) :: ((wsX5_back_r1 ++ (wsX5_back_r2 ++ wsX5_back_r3)) ++ wsX50)
def wsX5_has : List Cond := .code yX5_has cX5_has 3 (some .boolean) :: ([.fieldLink RX5 71 "KinLedgerModel" "code" "I", .methodLink RX5 78 yX5_isTable, .instanceMethod yX5_isTable, .selects RX5 yX5_isTable yX5_isTable, .initialized RX5, .code yX5_isTable cX5_isTable 2 (some .boolean), .fieldLink RX5 75 "KinLedgerModel" "tables" "I", .methodLink RX5 85 yX5_find, .instanceMethod yX5_find, .selects RX5 yX5_find yX5_find, .code yX5_find cX5_find 5 (some .int), .fieldLink RX5 82 "KinLedgerModel" "rows" "I", .fieldLink RX5 13 "KinLedgerModel" "of" "[I", .fieldLink RX5 16 "KinLedgerModel" "cells" "[I"] ++ wsX50)
def wsX5_cell : List Cond := .code yX5_cell cX5_cell 5 (some .int) :: ([.fieldLink RX5 71 "KinLedgerModel" "code" "I", .fieldLink RX5 16 "KinLedgerModel" "cells" "[I", .methodLink RX5 118 yX5_isColumn, .instanceMethod yX5_isColumn, .selects RX5 yX5_isColumn yX5_isColumn, .initialized RX5, .code yX5_isColumn cX5_isColumn 3 (some .boolean), .fieldLink RX5 7 "KinLedgerModel" "columns" "[I", .methodLink RX5 78 yX5_isTable, .instanceMethod yX5_isTable, .selects RX5 yX5_isTable yX5_isTable, .code yX5_isTable cX5_isTable 2 (some .boolean), .fieldLink RX5 75 "KinLedgerModel" "tables" "I", .methodLink RX5 85 yX5_find, .instanceMethod yX5_find, .selects RX5 yX5_find yX5_find, .code yX5_find cX5_find 5 (some .int), .fieldLink RX5 82 "KinLedgerModel" "rows" "I", .fieldLink RX5 13 "KinLedgerModel" "of" "[I"] ++ wsX50)
def wsX5_key : List Cond := .code yX5_key cX5_key 6 (some .int) :: ([.fieldLink RX5 71 "KinLedgerModel" "code" "I", .fieldLink RX5 82 "KinLedgerModel" "rows" "I", .fieldLink RX5 13 "KinLedgerModel" "of" "[I", .fieldLink RX5 16 "KinLedgerModel" "cells" "[I", .methodLink RX5 78 yX5_isTable, .instanceMethod yX5_isTable, .selects RX5 yX5_isTable yX5_isTable, .initialized RX5, .code yX5_isTable cX5_isTable 2 (some .boolean), .fieldLink RX5 75 "KinLedgerModel" "tables" "I"] ++ wsX50)
def wsX5_count : List Cond := .code yX5_count cX5_count 4 (some .int) :: ([.fieldLink RX5 71 "KinLedgerModel" "code" "I", .fieldLink RX5 82 "KinLedgerModel" "rows" "I", .fieldLink RX5 13 "KinLedgerModel" "of" "[I", .methodLink RX5 78 yX5_isTable, .instanceMethod yX5_isTable, .selects RX5 yX5_isTable yX5_isTable, .initialized RX5, .code yX5_isTable cX5_isTable 2 (some .boolean), .fieldLink RX5 75 "KinLedgerModel" "tables" "I"] ++ wsX50)
def wsX5_referring : List Cond := .code yX5_referring cX5_referring 5 (some .int) :: ([.fieldLink RX5 106 "KinLedgerModel" "links" "I", .fieldLink RX5 35 "KinLedgerModel" "parent" "[I", .fieldLink RX5 71 "KinLedgerModel" "code" "I", .fieldLink RX5 82 "KinLedgerModel" "rows" "I", .fieldLink RX5 13 "KinLedgerModel" "of" "[I", .fieldLink RX5 29 "KinLedgerModel" "child" "[I", .fieldLink RX5 16 "KinLedgerModel" "cells" "[I", .fieldLink RX5 32 "KinLedgerModel" "linkColumn" "[I", .methodLink RX5 85 yX5_find, .instanceMethod yX5_find, .selects RX5 yX5_find yX5_find, .initialized RX5, .code yX5_find cX5_find 5 (some .int)] ++ wsX50)
def wsX5_reason : List Cond := .code yX5_reason cX5_reason 1 (some .int) :: ([.fieldLink RX5 71 "KinLedgerModel" "code" "I", .fieldLink RX5 121 "KinLedgerModel" "reason" "I"] ++ wsX50)
def wsJ9_min_7cf53 : List Cond := .code yJ9_min_7cf53 cJ9_min_7cf53 2 (some .int) :: ([])
def wsL_table : List Cond := .codeWith yL_table cL_table 4 (some .int) [(0, 9, 12, 13), (0, 9, 15, 15)] :: ([.classLink RL 13 "java/lang/IllegalArgumentException", .classLink RL 15 "java/util/NoSuchElementException", .methodLink RL 7 yX4_table, .instanceMethod yX4_table, .selects RX4 yX4_table yX4_table, .initialized RX4, .code yX4_table cX4_table 2 (some .int), .fieldLink RX4 13 "KinLedger" "tableCount" "I", .fieldLink RX4 9 "KinLedger" "columnCounts" "[I", .methodLink RX4 74 yX4_needArgument, .static yX4_needArgument, .code yX4_needArgument cX4_needArgument 1 none, .classLink RX4 190 "java/lang/IllegalArgumentException", .initialized "java/lang/IllegalArgumentException", .methodLink RX4 78 yX4_needElement, .static yX4_needElement, .code yX4_needElement cX4_needElement 1 none, .classLink RX4 193 "java/util/NoSuchElementException", .initialized "java/util/NoSuchElementException"] ++ wsX40 ++ (vx_at0 RX4 192 "java/lang/IllegalArgumentException" ["java/lang/RuntimeException", "java/lang/Exception"]).filter goodWord ++ (vx_at0 RX4 195 "java/util/NoSuchElementException" ["java/lang/RuntimeException", "java/lang/Exception"]).filter goodWord)
def wsL_link_r1 : List Cond := [Cond.classLink RL 13 "java/lang/IllegalArgumentException", Cond.classLink RL 15 "java/util/NoSuchElementException", Cond.classLink RL 21 "java/lang/IllegalStateException", Cond.methodLink RL 17 yX4_link, Cond.instanceMethod yX4_link, Cond.selects RX4 yX4_link yX4_link, Cond.initialized RX4, Cond.code yX4_link cX4_link 6 (some .int), Cond.fieldLink RX4 23 "KinLedger" "linkCount" "I", Cond.classLink RX4 17 RX1, Cond.instantiable RX1 4, Cond.initialized RX1, Cond.fieldLink RX4 53 "KinLedger" "rows" "LKinLedger$Rows;", Cond.fieldLink RX4 19 "KinLedger" "links" "[LKinLedger$Link;", Cond.methodLink RX4 81 yX4_isCellColumn, Cond.instanceMethod yX4_isCellColumn, Cond.selects RX4 yX4_isCellColumn yX4_isCellColumn, Cond.code yX4_isCellColumn cX4_isCellColumn 3 (some .boolean), Cond.methodLink RX4 140 yX4_isColumn, Cond.instanceMethod yX4_isColumn, Cond.selects RX4 yX4_isColumn yX4_isColumn, Cond.code yX4_isColumn cX4_isColumn 3 (some .boolean), Cond.fieldLink RX4 9 "KinLedger" "columnCounts" "[I", Cond.methodLink RX4 85 yX4_isTable]
def wsL_link_r2 : List Cond := [Cond.instanceMethod yX4_isTable, Cond.selects RX4 yX4_isTable yX4_isTable, Cond.code yX4_isTable cX4_isTable 2 (some .boolean), Cond.fieldLink RX4 13 "KinLedger" "tableCount" "I", Cond.methodLink RX4 74 yX4_needArgument, Cond.static yX4_needArgument, Cond.code yX4_needArgument cX4_needArgument 1 none, Cond.classLink RX4 190 "java/lang/IllegalArgumentException", Cond.initialized "java/lang/IllegalArgumentException", Cond.methodLink RX4 78 yX4_needElement, Cond.static yX4_needElement, Cond.code yX4_needElement cX4_needElement 1 none, Cond.classLink RX4 193 "java/util/NoSuchElementException", Cond.initialized "java/util/NoSuchElementException", Cond.methodLink RX4 89 yX1_init, Cond.instanceMethod yX1_init, Cond.code yX1_init cX1_init 5 none, Cond.methodLink RX1 3 objectInit, Cond.instanceMethod objectInit, Cond.code objectInit ⟨#[0xb1]⟩ 1 none, Cond.fieldLink RX1 9 "KinLedger$Link" "child" "I", Cond.fieldLink RX1 15 "KinLedger$Link" "column" "I", Cond.fieldLink RX1 18 "KinLedger$Link" "parent" "I", Cond.fieldLink RX1 21 "KinLedger$Link" "way" "I"]
def wsL_link_r3 : List Cond := [Cond.methodLink RX4 92 yX1_isBroken, Cond.instanceMethod yX1_isBroken, Cond.selects RX1 yX1_isBroken yX1_isBroken, Cond.code yX1_isBroken cX1_isBroken 3 (some .boolean), Cond.methodLink RX1 24 yX1_refers, Cond.instanceMethod yX1_refers, Cond.selects RX1 yX1_refers yX1_refers, Cond.code yX1_refers cX1_refers 3 (some .boolean), Cond.methodLink RX1 41 yX2_holds, Cond.instanceMethod yX2_holds, Cond.selects RX2 yX2_holds yX2_holds, Cond.initialized RX2, Cond.code yX2_holds cX2_holds 3 (some .boolean), Cond.fieldLink RX2 9 "KinLedger$Rows" "tables" "[I", Cond.methodLink RX1 28 yX2_at, Cond.instanceMethod yX2_at, Cond.selects RX2 yX2_at yX2_at, Cond.code yX2_at cX2_at 3 (some .int), Cond.fieldLink RX2 15 "KinLedger$Rows" "cells" "[I", Cond.methodLink RX1 37 yX1_target, Cond.instanceMethod yX1_target, Cond.selects RX1 yX1_target yX1_target, Cond.code yX1_target cX1_target 3 (some .int), Cond.methodLink RX1 34 yX2_find]
def wsL_link_r4 : List Cond := [Cond.instanceMethod yX2_find, Cond.selects RX2 yX2_find yX2_find, Cond.code yX2_find cX2_find 4 (some .int), Cond.methodLink RX2 30 yX2_at, Cond.methodLink RX4 96 yX4_refuseIf, Cond.instanceMethod yX4_refuseIf, Cond.selects RX4 yX4_refuseIf yX4_refuseIf, Cond.code yX4_refuseIf cX4_refuseIf 3 none, Cond.classLink RX4 196 "java/lang/IllegalStateException", Cond.initialized "java/lang/IllegalStateException", Cond.fieldLink RX4 71 "KinLedger" "latestReason" "I"]
def wsL_link : List Cond := .codeWith yL_link cL_link 7 (some .int) [(0, 14, 17, 13), (0, 14, 21, 15), (0, 14, 25, 21)] :: ((wsL_link_r1 ++ (wsL_link_r2 ++ (wsL_link_r3 ++ wsL_link_r4))) ++ wsX40 ++ wsX10 ++ wsX20 ++ (vx_at0 RX4 192 "java/lang/IllegalArgumentException" ["java/lang/RuntimeException", "java/lang/Exception"]).filter goodWord ++ (vx_at0 RX4 195 "java/util/NoSuchElementException" ["java/lang/RuntimeException", "java/lang/Exception"]).filter goodWord ++ (vx_at0 RX4 198 "java/lang/IllegalStateException" ["java/lang/RuntimeException", "java/lang/Exception"]).filter goodWord)
def wsL_single_r1 : List Cond := [Cond.classLink RL 13 "java/lang/IllegalArgumentException", Cond.classLink RL 15 "java/util/NoSuchElementException", Cond.classLink RL 21 "java/lang/IllegalStateException", Cond.methodLink RL 23 yX4_single, Cond.instanceMethod yX4_single, Cond.selects RX4 yX4_single yX4_single, Cond.initialized RX4, Cond.code yX4_single cX4_single 4 (some .int), Cond.fieldLink RX4 32 "KinLedger" "singleCount" "I", Cond.classLink RX4 26 RX3, Cond.instantiable RX3 2, Cond.initialized RX3, Cond.fieldLink RX4 53 "KinLedger" "rows" "LKinLedger$Rows;", Cond.fieldLink RX4 28 "KinLedger" "singles" "[LKinLedger$Single;", Cond.methodLink RX4 81 yX4_isCellColumn, Cond.instanceMethod yX4_isCellColumn, Cond.selects RX4 yX4_isCellColumn yX4_isCellColumn, Cond.code yX4_isCellColumn cX4_isCellColumn 3 (some .boolean), Cond.methodLink RX4 140 yX4_isColumn, Cond.instanceMethod yX4_isColumn, Cond.selects RX4 yX4_isColumn yX4_isColumn, Cond.code yX4_isColumn cX4_isColumn 3 (some .boolean), Cond.fieldLink RX4 9 "KinLedger" "columnCounts" "[I", Cond.methodLink RX4 85 yX4_isTable]
def wsL_single_r2 : List Cond := [Cond.instanceMethod yX4_isTable, Cond.selects RX4 yX4_isTable yX4_isTable, Cond.code yX4_isTable cX4_isTable 2 (some .boolean), Cond.fieldLink RX4 13 "KinLedger" "tableCount" "I", Cond.methodLink RX4 74 yX4_needArgument, Cond.static yX4_needArgument, Cond.code yX4_needArgument cX4_needArgument 1 none, Cond.classLink RX4 190 "java/lang/IllegalArgumentException", Cond.initialized "java/lang/IllegalArgumentException", Cond.methodLink RX4 78 yX4_needElement, Cond.static yX4_needElement, Cond.code yX4_needElement cX4_needElement 1 none, Cond.classLink RX4 193 "java/util/NoSuchElementException", Cond.initialized "java/util/NoSuchElementException", Cond.methodLink RX4 100 yX3_init, Cond.instanceMethod yX3_init, Cond.code yX3_init cX3_init 3 none, Cond.methodLink RX3 1 objectInit, Cond.instanceMethod objectInit, Cond.code objectInit ⟨#[0xb1]⟩ 1 none, Cond.fieldLink RX3 7 "KinLedger$Single" "table" "I", Cond.fieldLink RX3 13 "KinLedger$Single" "column" "I", Cond.methodLink RX4 103 yX3_isBroken, Cond.instanceMethod yX3_isBroken]
def wsL_single_r3 : List Cond := [Cond.selects RX3 yX3_isBroken yX3_isBroken, Cond.code yX3_isBroken cX3_isBroken 2 (some .boolean), Cond.methodLink RX3 16 yX2_hasTwins, Cond.instanceMethod yX2_hasTwins, Cond.selects RX2 yX2_hasTwins yX2_hasTwins, Cond.initialized RX2, Cond.code yX2_hasTwins cX2_hasTwins 4 (some .boolean), Cond.fieldLink RX2 9 "KinLedger$Rows" "tables" "[I", Cond.methodLink RX2 30 yX2_at, Cond.instanceMethod yX2_at, Cond.selects RX2 yX2_at yX2_at, Cond.code yX2_at cX2_at 3 (some .int), Cond.fieldLink RX2 15 "KinLedger$Rows" "cells" "[I", Cond.methodLink RX2 37 yX2_hasTwinBefore, Cond.instanceMethod yX2_hasTwinBefore, Cond.selects RX2 yX2_hasTwinBefore yX2_hasTwinBefore, Cond.code yX2_hasTwinBefore cX2_hasTwinBefore 4 (some .boolean), Cond.methodLink RX4 96 yX4_refuseIf, Cond.instanceMethod yX4_refuseIf, Cond.selects RX4 yX4_refuseIf yX4_refuseIf, Cond.code yX4_refuseIf cX4_refuseIf 3 none, Cond.classLink RX4 196 "java/lang/IllegalStateException", Cond.initialized "java/lang/IllegalStateException", Cond.fieldLink RX4 71 "KinLedger" "latestReason" "I"]
def wsL_single : List Cond := .codeWith yL_single cL_single 5 (some .int) [(0, 10, 13, 13), (0, 10, 17, 15), (0, 10, 21, 21)] :: ((wsL_single_r1 ++ (wsL_single_r2 ++ wsL_single_r3)) ++ wsX40 ++ wsX30 ++ wsX20 ++ (vx_at0 RX4 192 "java/lang/IllegalArgumentException" ["java/lang/RuntimeException", "java/lang/Exception"]).filter goodWord ++ (vx_at0 RX4 195 "java/util/NoSuchElementException" ["java/lang/RuntimeException", "java/lang/Exception"]).filter goodWord ++ (vx_at0 RX4 198 "java/lang/IllegalStateException" ["java/lang/RuntimeException", "java/lang/Exception"]).filter goodWord)
def wsL_word : List Cond := .codeWith yL_word cL_word 4 (some .int) [(0, 9, 12, 13), (0, 9, 15, 15)] :: ([.classLink RL 13 "java/lang/IllegalArgumentException", .classLink RL 15 "java/util/NoSuchElementException", .methodLink RL 27 yX4_word, .instanceMethod yX4_word, .selects RX4 yX4_word yX4_word, .initialized RX4, .code yX4_word cX4_word 2 (some .int), .fieldLink RX4 47 "KinLedger" "waitingCount" "I", .fieldLink RX4 44 "KinLedger" "waiting" "[I", .methodLink RX4 104 yX0_isWord, .static yX0_isWord, .initialized RX0, .code yX0_isWord cX0_isWord 1 (some .boolean), .methodLink RX4 74 yX4_needArgument, .static yX4_needArgument, .code yX4_needArgument cX4_needArgument 1 none, .classLink RX4 190 "java/lang/IllegalArgumentException", .initialized "java/lang/IllegalArgumentException", .methodLink RX4 78 yX4_needElement, .static yX4_needElement, .code yX4_needElement cX4_needElement 1 none, .classLink RX4 193 "java/util/NoSuchElementException", .initialized "java/util/NoSuchElementException"] ++ wsX40 ++ (vx_at0 RX4 192 "java/lang/IllegalArgumentException" ["java/lang/RuntimeException", "java/lang/Exception"]).filter goodWord ++ (vx_at0 RX4 195 "java/util/NoSuchElementException" ["java/lang/RuntimeException", "java/lang/Exception"]).filter goodWord)
def wsL_check_r1 : List Cond := [Cond.classLink RL 13 "java/lang/IllegalArgumentException", Cond.classLink RL 15 "java/util/NoSuchElementException", Cond.classLink RL 21 "java/lang/IllegalStateException", Cond.methodLink RL 30 yX4_check, Cond.instanceMethod yX4_check, Cond.selects RX4 yX4_check yX4_check, Cond.initialized RX4, Cond.code yX4_check cX4_check 4 (some .int), Cond.fieldLink RX4 44 "KinLedger" "waiting" "[I", Cond.fieldLink RX4 47 "KinLedger" "waitingCount" "I", Cond.fieldLink RX4 9 "KinLedger" "columnCounts" "[I", Cond.fieldLink RX4 41 "KinLedger" "checkCount" "I", Cond.classLink RX4 35 RX0, Cond.instantiable RX0 3, Cond.initialized RX0, Cond.fieldLink RX4 53 "KinLedger" "rows" "LKinLedger$Rows;", Cond.fieldLink RX4 37 "KinLedger" "checks" "[LKinLedger$Check;", Cond.methodLink RX4 85 yX4_isTable, Cond.instanceMethod yX4_isTable, Cond.selects RX4 yX4_isTable yX4_isTable, Cond.code yX4_isTable cX4_isTable 2 (some .boolean), Cond.fieldLink RX4 13 "KinLedger" "tableCount" "I", Cond.methodLink RX4 74 yX4_needArgument, Cond.static yX4_needArgument]
def wsL_check_r2 : List Cond := [Cond.code yX4_needArgument cX4_needArgument 1 none, Cond.classLink RX4 190 "java/lang/IllegalArgumentException", Cond.initialized "java/lang/IllegalArgumentException", Cond.methodLink RX4 107 yJ7_copyOf_59c91, Cond.static yJ7_copyOf_59c91, Cond.initialized RJ7, Cond.code yJ7_copyOf_59c91 cJ7_copyOf_59c91 3 (some (.array .int)), Cond.methodLink RJ7 316 ⟨"[I", "clone", "()Ljava/lang/Object;"⟩, Cond.sameMethod "[I" "java/lang/Object" "clone" "()Ljava/lang/Object;", Cond.native ⟨"java/lang/Object", "clone", "()Ljava/lang/Object;"⟩, Cond.instanceMethod ⟨"java/lang/Object", "clone", "()Ljava/lang/Object;"⟩, Cond.selects "[I" ⟨"[I", "clone", "()Ljava/lang/Object;"⟩ ⟨"java/lang/Object", "clone", "()Ljava/lang/Object;"⟩, Cond.classLink RJ7 317 "[I", Cond.arrayClass .int, Cond.methodLink RJ7 304 Lib.Math.min.name, Cond.static Lib.Math.min.name, Cond.initialized "java/lang/Math", Cond.code Lib.Math.min.name Lib.Math.min.code 2 (some .int), Cond.methodLink RJ7 150 arraycopyName, Cond.native arraycopyName, Cond.static arraycopyName, Cond.initialized "java/lang/System", Cond.methodLink RX4 113 yX0_areRight, Cond.static yX0_areRight]
def wsL_check_r3 : List Cond := [Cond.code yX0_areRight cX0_areRight 6 (some .boolean), Cond.methodLink RX0 22 yX0_taken, Cond.static yX0_taken, Cond.code yX0_taken cX0_taken 1 (some .int), Cond.methodLink RX4 78 yX4_needElement, Cond.static yX4_needElement, Cond.code yX4_needElement cX4_needElement 1 none, Cond.classLink RX4 193 "java/util/NoSuchElementException", Cond.initialized "java/util/NoSuchElementException", Cond.methodLink RX4 117 yX0_init, Cond.instanceMethod yX0_init, Cond.code yX0_init cX0_init 3 none, Cond.methodLink RX0 3 objectInit, Cond.instanceMethod objectInit, Cond.code objectInit ⟨#[0xb1]⟩ 1 none, Cond.fieldLink RX0 9 "KinLedger$Check" "table" "I", Cond.fieldLink RX0 15 "KinLedger$Check" "words" "[I", Cond.fieldLink RX0 19 "KinLedger$Check" "pile" "[I", Cond.methodLink RX4 120 yX0_isBroken, Cond.instanceMethod yX0_isBroken, Cond.selects RX0 yX0_isBroken yX0_isBroken, Cond.code yX0_isBroken cX0_isBroken 3 (some .boolean), Cond.methodLink RX0 26 yX2_holds, Cond.instanceMethod yX2_holds]
def wsL_check_r4 : List Cond := [Cond.selects RX2 yX2_holds yX2_holds, Cond.initialized RX2, Cond.code yX2_holds cX2_holds 3 (some .boolean), Cond.fieldLink RX2 9 "KinLedger$Rows" "tables" "[I", Cond.methodLink RX0 32 yX0_result, Cond.instanceMethod yX0_result, Cond.selects RX0 yX0_result yX0_result, Cond.code yX0_result cX0_result 6 (some .int), Cond.methodLink RX0 36 yX0_laid, Cond.static yX0_laid, Cond.code yX0_laid cX0_laid 3 (some .int), Cond.methodLink RX0 44 yX2_at, Cond.instanceMethod yX2_at, Cond.selects RX2 yX2_at yX2_at, Cond.code yX2_at cX2_at 3 (some .int), Cond.fieldLink RX2 15 "KinLedger$Rows" "cells" "[I", Cond.methodLink RX0 40 yX0_worked, Cond.instanceMethod yX0_worked, Cond.selects RX0 yX0_worked yX0_worked, Cond.code yX0_worked cX0_worked 5 (some .int), Cond.methodLink RX4 96 yX4_refuseIf, Cond.instanceMethod yX4_refuseIf, Cond.selects RX4 yX4_refuseIf yX4_refuseIf, Cond.code yX4_refuseIf cX4_refuseIf 3 none]
def wsL_check_r5 : List Cond := [Cond.classLink RX4 196 "java/lang/IllegalStateException", Cond.initialized "java/lang/IllegalStateException", Cond.fieldLink RX4 71 "KinLedger" "latestReason" "I"]
def wsL_check : List Cond := .codeWith yL_check cL_check 4 (some .int) [(0, 9, 12, 13), (0, 9, 15, 15), (0, 9, 18, 21)] :: ((wsL_check_r1 ++ (wsL_check_r2 ++ (wsL_check_r3 ++ (wsL_check_r4 ++ wsL_check_r5)))) ++ wsX40 ++ wsX00 ++ wsX20 ++ (vx_at0 RX4 192 "java/lang/IllegalArgumentException" ["java/lang/RuntimeException", "java/lang/Exception"]).filter goodWord ++ (vx_at0 RX4 195 "java/util/NoSuchElementException" ["java/lang/RuntimeException", "java/lang/Exception"]).filter goodWord ++ (vx_at0 RX4 198 "java/lang/IllegalStateException" ["java/lang/RuntimeException", "java/lang/Exception"]).filter goodWord)
def wsL_insert_r1 : List Cond := [Cond.classLink RL 13 "java/lang/IllegalArgumentException", Cond.classLink RL 15 "java/util/NoSuchElementException", Cond.classLink RL 21 "java/lang/IllegalStateException", Cond.methodLink RL 33 yX4_insert, Cond.instanceMethod yX4_insert, Cond.selects RX4 yX4_insert yX4_insert, Cond.initialized RX4, Cond.code yX4_insert cX4_insert 7 none, Cond.fieldLink RX4 53 "KinLedger" "rows" "LKinLedger$Rows;", Cond.fieldLink RX4 57 "KinLedger" "draft" "LKinLedger$Rows;", Cond.methodLink RX4 85 yX4_isTable, Cond.instanceMethod yX4_isTable, Cond.selects RX4 yX4_isTable yX4_isTable, Cond.code yX4_isTable cX4_isTable 2 (some .boolean), Cond.fieldLink RX4 13 "KinLedger" "tableCount" "I", Cond.methodLink RX4 74 yX4_needArgument, Cond.static yX4_needArgument, Cond.code yX4_needArgument cX4_needArgument 1 none, Cond.classLink RX4 190 "java/lang/IllegalArgumentException", Cond.initialized "java/lang/IllegalArgumentException", Cond.methodLink RX4 121 yX2_freePlace, Cond.instanceMethod yX2_freePlace, Cond.selects RX2 yX2_freePlace yX2_freePlace, Cond.initialized RX2]
def wsL_insert_r2 : List Cond := [Cond.code yX2_freePlace cX2_freePlace 2 (some .int), Cond.fieldLink RX2 9 "KinLedger$Rows" "tables" "[I", Cond.methodLink RX4 78 yX4_needElement, Cond.static yX4_needElement, Cond.code yX4_needElement cX4_needElement 1 none, Cond.classLink RX4 193 "java/util/NoSuchElementException", Cond.initialized "java/util/NoSuchElementException", Cond.methodLink RX4 125 yX2_become, Cond.instanceMethod yX2_become, Cond.selects RX2 yX2_become yX2_become, Cond.code yX2_become cX2_become 2 none, Cond.methodLink RX2 24 arraycopyName, Cond.native arraycopyName, Cond.static arraycopyName, Cond.initialized "java/lang/System", Cond.fieldLink RX2 15 "KinLedger$Rows" "cells" "[I", Cond.methodLink RX4 129 yX2_add, Cond.instanceMethod yX2_add, Cond.selects RX2 yX2_add yX2_add, Cond.code yX2_add cX2_add 3 none, Cond.methodLink RX4 132 yX2_put, Cond.instanceMethod yX2_put, Cond.selects RX2 yX2_put yX2_put, Cond.code yX2_put cX2_put 4 none]
def wsL_insert_r3 : List Cond := [Cond.methodLink RX4 136 yX4_settle, Cond.instanceMethod yX4_settle, Cond.selects RX4 yX4_settle yX4_settle, Cond.code yX4_settle cX4_settle 3 none, Cond.methodLink RX4 173 yX4_whyBroken, Cond.instanceMethod yX4_whyBroken, Cond.selects RX4 yX4_whyBroken yX4_whyBroken, Cond.code yX4_whyBroken cX4_whyBroken 3 (some .int), Cond.fieldLink RX4 32 "KinLedger" "singleCount" "I", Cond.fieldLink RX4 28 "KinLedger" "singles" "[LKinLedger$Single;", Cond.fieldLink RX4 23 "KinLedger" "linkCount" "I", Cond.fieldLink RX4 19 "KinLedger" "links" "[LKinLedger$Link;", Cond.fieldLink RX4 41 "KinLedger" "checkCount" "I", Cond.fieldLink RX4 37 "KinLedger" "checks" "[LKinLedger$Check;", Cond.methodLink RX4 199 yX2_hasTwins, Cond.instanceMethod yX2_hasTwins, Cond.selects RX2 yX2_hasTwins yX2_hasTwins, Cond.code yX2_hasTwins cX2_hasTwins 4 (some .boolean), Cond.methodLink RX2 30 yX2_at, Cond.instanceMethod yX2_at, Cond.selects RX2 yX2_at yX2_at, Cond.code yX2_at cX2_at 3 (some .int), Cond.methodLink RX2 37 yX2_hasTwinBefore, Cond.instanceMethod yX2_hasTwinBefore]
def wsL_insert_r4 : List Cond := [Cond.selects RX2 yX2_hasTwinBefore yX2_hasTwinBefore, Cond.code yX2_hasTwinBefore cX2_hasTwinBefore 4 (some .boolean), Cond.methodLink RX4 103 yX3_isBroken, Cond.instanceMethod yX3_isBroken, Cond.selects RX3 yX3_isBroken yX3_isBroken, Cond.initialized RX3, Cond.code yX3_isBroken cX3_isBroken 2 (some .boolean), Cond.fieldLink RX3 7 "KinLedger$Single" "table" "I", Cond.fieldLink RX3 13 "KinLedger$Single" "column" "I", Cond.methodLink RX3 16 yX2_hasTwins, Cond.methodLink RX4 92 yX1_isBroken, Cond.instanceMethod yX1_isBroken, Cond.selects RX1 yX1_isBroken yX1_isBroken, Cond.initialized RX1, Cond.code yX1_isBroken cX1_isBroken 3 (some .boolean), Cond.methodLink RX1 24 yX1_refers, Cond.instanceMethod yX1_refers, Cond.selects RX1 yX1_refers yX1_refers, Cond.code yX1_refers cX1_refers 3 (some .boolean), Cond.fieldLink RX1 9 "KinLedger$Link" "child" "I", Cond.fieldLink RX1 15 "KinLedger$Link" "column" "I", Cond.methodLink RX1 41 yX2_holds, Cond.instanceMethod yX2_holds, Cond.selects RX2 yX2_holds yX2_holds]
def wsL_insert_r5 : List Cond := [Cond.code yX2_holds cX2_holds 3 (some .boolean), Cond.methodLink RX1 28 yX2_at, Cond.methodLink RX1 37 yX1_target, Cond.instanceMethod yX1_target, Cond.selects RX1 yX1_target yX1_target, Cond.code yX1_target cX1_target 3 (some .int), Cond.fieldLink RX1 18 "KinLedger$Link" "parent" "I", Cond.methodLink RX1 34 yX2_find, Cond.instanceMethod yX2_find, Cond.selects RX2 yX2_find yX2_find, Cond.code yX2_find cX2_find 4 (some .int), Cond.methodLink RX4 120 yX0_isBroken, Cond.instanceMethod yX0_isBroken, Cond.selects RX0 yX0_isBroken yX0_isBroken, Cond.initialized RX0, Cond.code yX0_isBroken cX0_isBroken 3 (some .boolean), Cond.fieldLink RX0 9 "KinLedger$Check" "table" "I", Cond.methodLink RX0 26 yX2_holds, Cond.methodLink RX0 32 yX0_result, Cond.instanceMethod yX0_result, Cond.selects RX0 yX0_result yX0_result, Cond.code yX0_result cX0_result 6 (some .int), Cond.fieldLink RX0 15 "KinLedger$Check" "words" "[I", Cond.fieldLink RX0 19 "KinLedger$Check" "pile" "[I"]
def wsL_insert_r6 : List Cond := [Cond.methodLink RX0 22 yX0_taken, Cond.static yX0_taken, Cond.code yX0_taken cX0_taken 1 (some .int), Cond.methodLink RX0 36 yX0_laid, Cond.static yX0_laid, Cond.code yX0_laid cX0_laid 3 (some .int), Cond.methodLink RX0 44 yX2_at, Cond.methodLink RX0 40 yX0_worked, Cond.instanceMethod yX0_worked, Cond.selects RX0 yX0_worked yX0_worked, Cond.code yX0_worked cX0_worked 5 (some .int), Cond.methodLink RX4 96 yX4_refuseIf, Cond.instanceMethod yX4_refuseIf, Cond.selects RX4 yX4_refuseIf yX4_refuseIf, Cond.code yX4_refuseIf cX4_refuseIf 3 none, Cond.classLink RX4 196 "java/lang/IllegalStateException", Cond.initialized "java/lang/IllegalStateException", Cond.fieldLink RX4 71 "KinLedger" "latestReason" "I"]
def wsL_insert : List Cond := .codeWith yL_insert cL_insert 7 (some .int) [(0, 11, 14, 13), (0, 11, 18, 15), (0, 11, 22, 21)] :: ((wsL_insert_r1 ++ (wsL_insert_r2 ++ (wsL_insert_r3 ++ (wsL_insert_r4 ++ (wsL_insert_r5 ++ wsL_insert_r6))))) ++ wsX40 ++ wsX20 ++ wsX30 ++ wsX10 ++ wsX00 ++ (vx_at0 RX4 192 "java/lang/IllegalArgumentException" ["java/lang/RuntimeException", "java/lang/Exception"]).filter goodWord ++ (vx_at0 RX4 195 "java/util/NoSuchElementException" ["java/lang/RuntimeException", "java/lang/Exception"]).filter goodWord ++ (vx_at0 RX4 198 "java/lang/IllegalStateException" ["java/lang/RuntimeException", "java/lang/Exception"]).filter goodWord)
def wsL_delete_r1 : List Cond := [Cond.classLink RL 13 "java/lang/IllegalArgumentException", Cond.classLink RL 21 "java/lang/IllegalStateException", Cond.methodLink RL 37 yX4_delete, Cond.instanceMethod yX4_delete, Cond.selects RX4 yX4_delete yX4_delete, Cond.initialized RX4, Cond.code yX4_delete cX4_delete 6 (some .int), Cond.fieldLink RX4 57 "KinLedger" "draft" "LKinLedger$Rows;", Cond.fieldLink RX4 53 "KinLedger" "rows" "LKinLedger$Rows;", Cond.methodLink RX4 140 yX4_isColumn, Cond.instanceMethod yX4_isColumn, Cond.selects RX4 yX4_isColumn yX4_isColumn, Cond.code yX4_isColumn cX4_isColumn 3 (some .boolean), Cond.fieldLink RX4 9 "KinLedger" "columnCounts" "[I", Cond.methodLink RX4 85 yX4_isTable, Cond.instanceMethod yX4_isTable, Cond.selects RX4 yX4_isTable yX4_isTable, Cond.code yX4_isTable cX4_isTable 2 (some .boolean), Cond.fieldLink RX4 13 "KinLedger" "tableCount" "I", Cond.methodLink RX4 74 yX4_needArgument, Cond.static yX4_needArgument, Cond.code yX4_needArgument cX4_needArgument 1 none, Cond.classLink RX4 190 "java/lang/IllegalArgumentException", Cond.initialized "java/lang/IllegalArgumentException"]
def wsL_delete_r2 : List Cond := [Cond.methodLink RX4 143 yX4_markGoing, Cond.instanceMethod yX4_markGoing, Cond.selects RX4 yX4_markGoing yX4_markGoing, Cond.code yX4_markGoing cX4_markGoing 5 none, Cond.fieldLink RX4 67 "KinLedger" "going" "[Z", Cond.methodLink RX4 166 yX2_holds, Cond.instanceMethod yX2_holds, Cond.selects RX2 yX2_holds yX2_holds, Cond.initialized RX2, Cond.code yX2_holds cX2_holds 3 (some .boolean), Cond.fieldLink RX2 9 "KinLedger$Rows" "tables" "[I", Cond.methodLink RX4 160 yX2_at, Cond.instanceMethod yX2_at, Cond.selects RX2 yX2_at yX2_at, Cond.code yX2_at cX2_at 3 (some .int), Cond.fieldLink RX2 15 "KinLedger$Rows" "cells" "[I", Cond.methodLink RX4 146 yX4_spreadGoing, Cond.instanceMethod yX4_spreadGoing, Cond.selects RX4 yX4_spreadGoing yX4_spreadGoing, Cond.code yX4_spreadGoing cX4_spreadGoing 4 (some .boolean), Cond.fieldLink RX4 23 "KinLedger" "linkCount" "I", Cond.fieldLink RX4 19 "KinLedger" "links" "[LKinLedger$Link;", Cond.fieldLink RX4 202 "KinLedger$Link" "way" "I", Cond.methodLink RX4 205 yX4_losesTarget]
def wsL_delete_r3 : List Cond := [Cond.instanceMethod yX4_losesTarget, Cond.selects RX4 yX4_losesTarget yX4_losesTarget, Cond.code yX4_losesTarget cX4_losesTarget 4 (some .boolean), Cond.methodLink RX4 186 yX1_target, Cond.instanceMethod yX1_target, Cond.selects RX1 yX1_target yX1_target, Cond.initialized RX1, Cond.code yX1_target cX1_target 3 (some .int), Cond.fieldLink RX1 18 "KinLedger$Link" "parent" "I", Cond.fieldLink RX1 15 "KinLedger$Link" "column" "I", Cond.methodLink RX1 24 yX1_refers, Cond.instanceMethod yX1_refers, Cond.selects RX1 yX1_refers yX1_refers, Cond.code yX1_refers cX1_refers 3 (some .boolean), Cond.fieldLink RX1 9 "KinLedger$Link" "child" "I", Cond.methodLink RX1 41 yX2_holds, Cond.methodLink RX1 28 yX2_at, Cond.methodLink RX1 34 yX2_find, Cond.instanceMethod yX2_find, Cond.selects RX2 yX2_find yX2_find, Cond.code yX2_find cX2_find 4 (some .int), Cond.methodLink RX2 30 yX2_at, Cond.methodLink RX4 125 yX2_become, Cond.instanceMethod yX2_become]
def wsL_delete_r4 : List Cond := [Cond.selects RX2 yX2_become yX2_become, Cond.code yX2_become cX2_become 2 none, Cond.methodLink RX2 24 arraycopyName, Cond.native arraycopyName, Cond.static arraycopyName, Cond.initialized "java/lang/System", Cond.methodLink RX4 150 yX4_removeGoing, Cond.instanceMethod yX4_removeGoing, Cond.selects RX4 yX4_removeGoing yX4_removeGoing, Cond.code yX4_removeGoing cX4_removeGoing 3 (some .int), Cond.methodLink RX4 209 yX2_remove, Cond.instanceMethod yX2_remove, Cond.selects RX2 yX2_remove yX2_remove, Cond.code yX2_remove cX2_remove 2 none, Cond.methodLink RX4 153 yX4_loosenFromGoing, Cond.instanceMethod yX4_loosenFromGoing, Cond.selects RX4 yX4_loosenFromGoing yX4_loosenFromGoing, Cond.code yX4_loosenFromGoing cX4_loosenFromGoing 4 (some .int), Cond.fieldLink RX4 212 "KinLedger$Link" "column" "I", Cond.methodLink RX4 132 yX2_put, Cond.instanceMethod yX2_put, Cond.selects RX2 yX2_put yX2_put, Cond.code yX2_put cX2_put 4 none, Cond.methodLink RX4 136 yX4_settle]
def wsL_delete_r5 : List Cond := [Cond.instanceMethod yX4_settle, Cond.selects RX4 yX4_settle yX4_settle, Cond.code yX4_settle cX4_settle 3 none, Cond.methodLink RX4 173 yX4_whyBroken, Cond.instanceMethod yX4_whyBroken, Cond.selects RX4 yX4_whyBroken yX4_whyBroken, Cond.code yX4_whyBroken cX4_whyBroken 3 (some .int), Cond.fieldLink RX4 32 "KinLedger" "singleCount" "I", Cond.fieldLink RX4 28 "KinLedger" "singles" "[LKinLedger$Single;", Cond.fieldLink RX4 41 "KinLedger" "checkCount" "I", Cond.fieldLink RX4 37 "KinLedger" "checks" "[LKinLedger$Check;", Cond.methodLink RX4 199 yX2_hasTwins, Cond.instanceMethod yX2_hasTwins, Cond.selects RX2 yX2_hasTwins yX2_hasTwins, Cond.code yX2_hasTwins cX2_hasTwins 4 (some .boolean), Cond.methodLink RX2 37 yX2_hasTwinBefore, Cond.instanceMethod yX2_hasTwinBefore, Cond.selects RX2 yX2_hasTwinBefore yX2_hasTwinBefore, Cond.code yX2_hasTwinBefore cX2_hasTwinBefore 4 (some .boolean), Cond.methodLink RX4 103 yX3_isBroken, Cond.instanceMethod yX3_isBroken, Cond.selects RX3 yX3_isBroken yX3_isBroken, Cond.initialized RX3, Cond.code yX3_isBroken cX3_isBroken 2 (some .boolean)]
def wsL_delete_r6 : List Cond := [Cond.fieldLink RX3 7 "KinLedger$Single" "table" "I", Cond.fieldLink RX3 13 "KinLedger$Single" "column" "I", Cond.methodLink RX3 16 yX2_hasTwins, Cond.methodLink RX4 92 yX1_isBroken, Cond.instanceMethod yX1_isBroken, Cond.selects RX1 yX1_isBroken yX1_isBroken, Cond.code yX1_isBroken cX1_isBroken 3 (some .boolean), Cond.methodLink RX1 37 yX1_target, Cond.methodLink RX4 120 yX0_isBroken, Cond.instanceMethod yX0_isBroken, Cond.selects RX0 yX0_isBroken yX0_isBroken, Cond.initialized RX0, Cond.code yX0_isBroken cX0_isBroken 3 (some .boolean), Cond.fieldLink RX0 9 "KinLedger$Check" "table" "I", Cond.methodLink RX0 26 yX2_holds, Cond.methodLink RX0 32 yX0_result, Cond.instanceMethod yX0_result, Cond.selects RX0 yX0_result yX0_result, Cond.code yX0_result cX0_result 6 (some .int), Cond.fieldLink RX0 15 "KinLedger$Check" "words" "[I", Cond.fieldLink RX0 19 "KinLedger$Check" "pile" "[I", Cond.methodLink RX0 22 yX0_taken, Cond.static yX0_taken, Cond.code yX0_taken cX0_taken 1 (some .int)]
def wsL_delete_r7 : List Cond := [Cond.methodLink RX0 36 yX0_laid, Cond.static yX0_laid, Cond.code yX0_laid cX0_laid 3 (some .int), Cond.methodLink RX0 44 yX2_at, Cond.methodLink RX0 40 yX0_worked, Cond.instanceMethod yX0_worked, Cond.selects RX0 yX0_worked yX0_worked, Cond.code yX0_worked cX0_worked 5 (some .int), Cond.methodLink RX4 96 yX4_refuseIf, Cond.instanceMethod yX4_refuseIf, Cond.selects RX4 yX4_refuseIf yX4_refuseIf, Cond.code yX4_refuseIf cX4_refuseIf 3 none, Cond.classLink RX4 196 "java/lang/IllegalStateException", Cond.initialized "java/lang/IllegalStateException", Cond.fieldLink RX4 71 "KinLedger" "latestReason" "I"]
def wsL_delete : List Cond := .codeWith yL_delete cL_delete 6 (some .int) [(0, 12, 15, 13), (0, 12, 19, 21)] :: ((wsL_delete_r1 ++ (wsL_delete_r2 ++ (wsL_delete_r3 ++ (wsL_delete_r4 ++ (wsL_delete_r5 ++ (wsL_delete_r6 ++ wsL_delete_r7)))))) ++ wsX40 ++ wsX20 ++ wsX10 ++ wsX30 ++ wsX00 ++ (vx_at0 RX4 192 "java/lang/IllegalArgumentException" ["java/lang/RuntimeException", "java/lang/Exception"]).filter goodWord ++ (vx_at0 RX4 198 "java/lang/IllegalStateException" ["java/lang/RuntimeException", "java/lang/Exception"]).filter goodWord)
def wsL_update_r1 : List Cond := [Cond.classLink RL 13 "java/lang/IllegalArgumentException", Cond.classLink RL 15 "java/util/NoSuchElementException", Cond.classLink RL 21 "java/lang/IllegalStateException", Cond.methodLink RL 41 yX4_update, Cond.instanceMethod yX4_update, Cond.selects RX4 yX4_update yX4_update, Cond.initialized RX4, Cond.code yX4_update cX4_update 7 (some .int), Cond.fieldLink RX4 53 "KinLedger" "rows" "LKinLedger$Rows;", Cond.fieldLink RX4 57 "KinLedger" "draft" "LKinLedger$Rows;", Cond.methodLink RX4 140 yX4_isColumn, Cond.instanceMethod yX4_isColumn, Cond.selects RX4 yX4_isColumn yX4_isColumn, Cond.code yX4_isColumn cX4_isColumn 3 (some .boolean), Cond.fieldLink RX4 9 "KinLedger" "columnCounts" "[I", Cond.methodLink RX4 85 yX4_isTable, Cond.instanceMethod yX4_isTable, Cond.selects RX4 yX4_isTable yX4_isTable, Cond.code yX4_isTable cX4_isTable 2 (some .boolean), Cond.fieldLink RX4 13 "KinLedger" "tableCount" "I", Cond.methodLink RX4 74 yX4_needArgument, Cond.static yX4_needArgument, Cond.code yX4_needArgument cX4_needArgument 1 none, Cond.classLink RX4 190 "java/lang/IllegalArgumentException"]
def wsL_update_r2 : List Cond := [Cond.initialized "java/lang/IllegalArgumentException", Cond.methodLink RX4 156 yX2_find, Cond.instanceMethod yX2_find, Cond.selects RX2 yX2_find yX2_find, Cond.initialized RX2, Cond.code yX2_find cX2_find 4 (some .int), Cond.fieldLink RX2 9 "KinLedger$Rows" "tables" "[I", Cond.methodLink RX2 30 yX2_at, Cond.instanceMethod yX2_at, Cond.selects RX2 yX2_at yX2_at, Cond.code yX2_at cX2_at 3 (some .int), Cond.fieldLink RX2 15 "KinLedger$Rows" "cells" "[I", Cond.methodLink RX4 78 yX4_needElement, Cond.static yX4_needElement, Cond.code yX4_needElement cX4_needElement 1 none, Cond.classLink RX4 193 "java/util/NoSuchElementException", Cond.initialized "java/util/NoSuchElementException", Cond.methodLink RX4 160 yX2_at, Cond.methodLink RX4 125 yX2_become, Cond.instanceMethod yX2_become, Cond.selects RX2 yX2_become yX2_become, Cond.code yX2_become cX2_become 2 none, Cond.methodLink RX2 24 arraycopyName, Cond.native arraycopyName]
def wsL_update_r3 : List Cond := [Cond.static arraycopyName, Cond.initialized "java/lang/System", Cond.methodLink RX4 132 yX2_put, Cond.instanceMethod yX2_put, Cond.selects RX2 yX2_put yX2_put, Cond.code yX2_put cX2_put 4 none, Cond.methodLink RX4 163 yX4_passOnKey, Cond.instanceMethod yX4_passOnKey, Cond.selects RX4 yX4_passOnKey yX4_passOnKey, Cond.code yX4_passOnKey cX4_passOnKey 6 (some .int), Cond.fieldLink RX4 23 "KinLedger" "linkCount" "I", Cond.fieldLink RX4 19 "KinLedger" "links" "[LKinLedger$Link;", Cond.fieldLink RX4 202 "KinLedger$Link" "way" "I", Cond.fieldLink RX4 212 "KinLedger$Link" "column" "I", Cond.methodLink RX4 186 yX1_target, Cond.instanceMethod yX1_target, Cond.selects RX1 yX1_target yX1_target, Cond.initialized RX1, Cond.code yX1_target cX1_target 3 (some .int), Cond.fieldLink RX1 18 "KinLedger$Link" "parent" "I", Cond.fieldLink RX1 15 "KinLedger$Link" "column" "I", Cond.methodLink RX1 24 yX1_refers, Cond.instanceMethod yX1_refers, Cond.selects RX1 yX1_refers yX1_refers]
def wsL_update_r4 : List Cond := [Cond.code yX1_refers cX1_refers 3 (some .boolean), Cond.fieldLink RX1 9 "KinLedger$Link" "child" "I", Cond.methodLink RX1 41 yX2_holds, Cond.instanceMethod yX2_holds, Cond.selects RX2 yX2_holds yX2_holds, Cond.code yX2_holds cX2_holds 3 (some .boolean), Cond.methodLink RX1 28 yX2_at, Cond.methodLink RX1 34 yX2_find, Cond.methodLink RX4 136 yX4_settle, Cond.instanceMethod yX4_settle, Cond.selects RX4 yX4_settle yX4_settle, Cond.code yX4_settle cX4_settle 3 none, Cond.methodLink RX4 173 yX4_whyBroken, Cond.instanceMethod yX4_whyBroken, Cond.selects RX4 yX4_whyBroken yX4_whyBroken, Cond.code yX4_whyBroken cX4_whyBroken 3 (some .int), Cond.fieldLink RX4 32 "KinLedger" "singleCount" "I", Cond.fieldLink RX4 28 "KinLedger" "singles" "[LKinLedger$Single;", Cond.fieldLink RX4 41 "KinLedger" "checkCount" "I", Cond.fieldLink RX4 37 "KinLedger" "checks" "[LKinLedger$Check;", Cond.methodLink RX4 199 yX2_hasTwins, Cond.instanceMethod yX2_hasTwins, Cond.selects RX2 yX2_hasTwins yX2_hasTwins, Cond.code yX2_hasTwins cX2_hasTwins 4 (some .boolean)]
def wsL_update_r5 : List Cond := [Cond.methodLink RX2 37 yX2_hasTwinBefore, Cond.instanceMethod yX2_hasTwinBefore, Cond.selects RX2 yX2_hasTwinBefore yX2_hasTwinBefore, Cond.code yX2_hasTwinBefore cX2_hasTwinBefore 4 (some .boolean), Cond.methodLink RX4 103 yX3_isBroken, Cond.instanceMethod yX3_isBroken, Cond.selects RX3 yX3_isBroken yX3_isBroken, Cond.initialized RX3, Cond.code yX3_isBroken cX3_isBroken 2 (some .boolean), Cond.fieldLink RX3 7 "KinLedger$Single" "table" "I", Cond.fieldLink RX3 13 "KinLedger$Single" "column" "I", Cond.methodLink RX3 16 yX2_hasTwins, Cond.methodLink RX4 92 yX1_isBroken, Cond.instanceMethod yX1_isBroken, Cond.selects RX1 yX1_isBroken yX1_isBroken, Cond.code yX1_isBroken cX1_isBroken 3 (some .boolean), Cond.methodLink RX1 37 yX1_target, Cond.methodLink RX4 120 yX0_isBroken, Cond.instanceMethod yX0_isBroken, Cond.selects RX0 yX0_isBroken yX0_isBroken, Cond.initialized RX0, Cond.code yX0_isBroken cX0_isBroken 3 (some .boolean), Cond.fieldLink RX0 9 "KinLedger$Check" "table" "I", Cond.methodLink RX0 26 yX2_holds]
def wsL_update_r6 : List Cond := [Cond.methodLink RX0 32 yX0_result, Cond.instanceMethod yX0_result, Cond.selects RX0 yX0_result yX0_result, Cond.code yX0_result cX0_result 6 (some .int), Cond.fieldLink RX0 15 "KinLedger$Check" "words" "[I", Cond.fieldLink RX0 19 "KinLedger$Check" "pile" "[I", Cond.methodLink RX0 22 yX0_taken, Cond.static yX0_taken, Cond.code yX0_taken cX0_taken 1 (some .int), Cond.methodLink RX0 36 yX0_laid, Cond.static yX0_laid, Cond.code yX0_laid cX0_laid 3 (some .int), Cond.methodLink RX0 44 yX2_at, Cond.methodLink RX0 40 yX0_worked, Cond.instanceMethod yX0_worked, Cond.selects RX0 yX0_worked yX0_worked, Cond.code yX0_worked cX0_worked 5 (some .int), Cond.methodLink RX4 96 yX4_refuseIf, Cond.instanceMethod yX4_refuseIf, Cond.selects RX4 yX4_refuseIf yX4_refuseIf, Cond.code yX4_refuseIf cX4_refuseIf 3 none, Cond.classLink RX4 196 "java/lang/IllegalStateException", Cond.initialized "java/lang/IllegalStateException", Cond.fieldLink RX4 71 "KinLedger" "latestReason" "I"]
def wsL_update : List Cond := .codeWith yL_update cL_update 7 (some .int) [(0, 14, 17, 13), (0, 14, 21, 15), (0, 14, 25, 21)] :: ((wsL_update_r1 ++ (wsL_update_r2 ++ (wsL_update_r3 ++ (wsL_update_r4 ++ (wsL_update_r5 ++ wsL_update_r6))))) ++ wsX40 ++ wsX20 ++ wsX10 ++ wsX30 ++ wsX00 ++ (vx_at0 RX4 192 "java/lang/IllegalArgumentException" ["java/lang/RuntimeException", "java/lang/Exception"]).filter goodWord ++ (vx_at0 RX4 195 "java/util/NoSuchElementException" ["java/lang/RuntimeException", "java/lang/Exception"]).filter goodWord ++ (vx_at0 RX4 198 "java/lang/IllegalStateException" ["java/lang/RuntimeException", "java/lang/Exception"]).filter goodWord)
def wsL_shift_r1 : List Cond := [Cond.classLink RL 13 "java/lang/IllegalArgumentException", Cond.classLink RL 21 "java/lang/IllegalStateException", Cond.methodLink RL 44 yX4_shift, Cond.instanceMethod yX4_shift, Cond.selects RX4 yX4_shift yX4_shift, Cond.initialized RX4, Cond.code yX4_shift cX4_shift 5 (some .int), Cond.fieldLink RX4 57 "KinLedger" "draft" "LKinLedger$Rows;", Cond.fieldLink RX4 53 "KinLedger" "rows" "LKinLedger$Rows;", Cond.methodLink RX4 81 yX4_isCellColumn, Cond.instanceMethod yX4_isCellColumn, Cond.selects RX4 yX4_isCellColumn yX4_isCellColumn, Cond.code yX4_isCellColumn cX4_isCellColumn 3 (some .boolean), Cond.methodLink RX4 140 yX4_isColumn, Cond.instanceMethod yX4_isColumn, Cond.selects RX4 yX4_isColumn yX4_isColumn, Cond.code yX4_isColumn cX4_isColumn 3 (some .boolean), Cond.fieldLink RX4 9 "KinLedger" "columnCounts" "[I", Cond.methodLink RX4 85 yX4_isTable, Cond.instanceMethod yX4_isTable, Cond.selects RX4 yX4_isTable yX4_isTable, Cond.code yX4_isTable cX4_isTable 2 (some .boolean), Cond.fieldLink RX4 13 "KinLedger" "tableCount" "I", Cond.methodLink RX4 74 yX4_needArgument]
def wsL_shift_r2 : List Cond := [Cond.static yX4_needArgument, Cond.code yX4_needArgument cX4_needArgument 1 none, Cond.classLink RX4 190 "java/lang/IllegalArgumentException", Cond.initialized "java/lang/IllegalArgumentException", Cond.methodLink RX4 125 yX2_become, Cond.instanceMethod yX2_become, Cond.selects RX2 yX2_become yX2_become, Cond.initialized RX2, Cond.code yX2_become cX2_become 2 none, Cond.fieldLink RX2 9 "KinLedger$Rows" "tables" "[I", Cond.methodLink RX2 24 arraycopyName, Cond.native arraycopyName, Cond.static arraycopyName, Cond.initialized "java/lang/System", Cond.fieldLink RX2 15 "KinLedger$Rows" "cells" "[I", Cond.methodLink RX4 166 yX2_holds, Cond.instanceMethod yX2_holds, Cond.selects RX2 yX2_holds yX2_holds, Cond.code yX2_holds cX2_holds 3 (some .boolean), Cond.methodLink RX4 160 yX2_at, Cond.instanceMethod yX2_at, Cond.selects RX2 yX2_at yX2_at, Cond.code yX2_at cX2_at 3 (some .int), Cond.methodLink RX4 132 yX2_put]
def wsL_shift_r3 : List Cond := [Cond.instanceMethod yX2_put, Cond.selects RX2 yX2_put yX2_put, Cond.code yX2_put cX2_put 4 none, Cond.methodLink RX4 136 yX4_settle, Cond.instanceMethod yX4_settle, Cond.selects RX4 yX4_settle yX4_settle, Cond.code yX4_settle cX4_settle 3 none, Cond.methodLink RX4 173 yX4_whyBroken, Cond.instanceMethod yX4_whyBroken, Cond.selects RX4 yX4_whyBroken yX4_whyBroken, Cond.code yX4_whyBroken cX4_whyBroken 3 (some .int), Cond.fieldLink RX4 32 "KinLedger" "singleCount" "I", Cond.fieldLink RX4 28 "KinLedger" "singles" "[LKinLedger$Single;", Cond.fieldLink RX4 23 "KinLedger" "linkCount" "I", Cond.fieldLink RX4 19 "KinLedger" "links" "[LKinLedger$Link;", Cond.fieldLink RX4 41 "KinLedger" "checkCount" "I", Cond.fieldLink RX4 37 "KinLedger" "checks" "[LKinLedger$Check;", Cond.methodLink RX4 199 yX2_hasTwins, Cond.instanceMethod yX2_hasTwins, Cond.selects RX2 yX2_hasTwins yX2_hasTwins, Cond.code yX2_hasTwins cX2_hasTwins 4 (some .boolean), Cond.methodLink RX2 30 yX2_at, Cond.methodLink RX2 37 yX2_hasTwinBefore, Cond.instanceMethod yX2_hasTwinBefore]
def wsL_shift_r4 : List Cond := [Cond.selects RX2 yX2_hasTwinBefore yX2_hasTwinBefore, Cond.code yX2_hasTwinBefore cX2_hasTwinBefore 4 (some .boolean), Cond.methodLink RX4 103 yX3_isBroken, Cond.instanceMethod yX3_isBroken, Cond.selects RX3 yX3_isBroken yX3_isBroken, Cond.initialized RX3, Cond.code yX3_isBroken cX3_isBroken 2 (some .boolean), Cond.fieldLink RX3 7 "KinLedger$Single" "table" "I", Cond.fieldLink RX3 13 "KinLedger$Single" "column" "I", Cond.methodLink RX3 16 yX2_hasTwins, Cond.methodLink RX4 92 yX1_isBroken, Cond.instanceMethod yX1_isBroken, Cond.selects RX1 yX1_isBroken yX1_isBroken, Cond.initialized RX1, Cond.code yX1_isBroken cX1_isBroken 3 (some .boolean), Cond.methodLink RX1 24 yX1_refers, Cond.instanceMethod yX1_refers, Cond.selects RX1 yX1_refers yX1_refers, Cond.code yX1_refers cX1_refers 3 (some .boolean), Cond.fieldLink RX1 9 "KinLedger$Link" "child" "I", Cond.fieldLink RX1 15 "KinLedger$Link" "column" "I", Cond.methodLink RX1 41 yX2_holds, Cond.methodLink RX1 28 yX2_at, Cond.methodLink RX1 37 yX1_target]
def wsL_shift_r5 : List Cond := [Cond.instanceMethod yX1_target, Cond.selects RX1 yX1_target yX1_target, Cond.code yX1_target cX1_target 3 (some .int), Cond.fieldLink RX1 18 "KinLedger$Link" "parent" "I", Cond.methodLink RX1 34 yX2_find, Cond.instanceMethod yX2_find, Cond.selects RX2 yX2_find yX2_find, Cond.code yX2_find cX2_find 4 (some .int), Cond.methodLink RX4 120 yX0_isBroken, Cond.instanceMethod yX0_isBroken, Cond.selects RX0 yX0_isBroken yX0_isBroken, Cond.initialized RX0, Cond.code yX0_isBroken cX0_isBroken 3 (some .boolean), Cond.fieldLink RX0 9 "KinLedger$Check" "table" "I", Cond.methodLink RX0 26 yX2_holds, Cond.methodLink RX0 32 yX0_result, Cond.instanceMethod yX0_result, Cond.selects RX0 yX0_result yX0_result, Cond.code yX0_result cX0_result 6 (some .int), Cond.fieldLink RX0 15 "KinLedger$Check" "words" "[I", Cond.fieldLink RX0 19 "KinLedger$Check" "pile" "[I", Cond.methodLink RX0 22 yX0_taken, Cond.static yX0_taken, Cond.code yX0_taken cX0_taken 1 (some .int)]
def wsL_shift_r6 : List Cond := [Cond.methodLink RX0 36 yX0_laid, Cond.static yX0_laid, Cond.code yX0_laid cX0_laid 3 (some .int), Cond.methodLink RX0 44 yX2_at, Cond.methodLink RX0 40 yX0_worked, Cond.instanceMethod yX0_worked, Cond.selects RX0 yX0_worked yX0_worked, Cond.code yX0_worked cX0_worked 5 (some .int), Cond.methodLink RX4 96 yX4_refuseIf, Cond.instanceMethod yX4_refuseIf, Cond.selects RX4 yX4_refuseIf yX4_refuseIf, Cond.code yX4_refuseIf cX4_refuseIf 3 none, Cond.classLink RX4 196 "java/lang/IllegalStateException", Cond.initialized "java/lang/IllegalStateException", Cond.fieldLink RX4 71 "KinLedger" "latestReason" "I", Cond.methodLink RX4 169 yX2_size, Cond.instanceMethod yX2_size, Cond.selects RX2 yX2_size yX2_size, Cond.code yX2_size cX2_size 4 (some .int)]
def wsL_shift : List Cond := .codeWith yL_shift cL_shift 6 (some .int) [(0, 12, 15, 13), (0, 12, 19, 21)] :: ((wsL_shift_r1 ++ (wsL_shift_r2 ++ (wsL_shift_r3 ++ (wsL_shift_r4 ++ (wsL_shift_r5 ++ wsL_shift_r6))))) ++ wsX40 ++ wsX20 ++ wsX30 ++ wsX10 ++ wsX00 ++ (vx_at0 RX4 192 "java/lang/IllegalArgumentException" ["java/lang/RuntimeException", "java/lang/Exception"]).filter goodWord ++ (vx_at0 RX4 198 "java/lang/IllegalStateException" ["java/lang/RuntimeException", "java/lang/Exception"]).filter goodWord)
def wsL_keep_r1 : List Cond := [Cond.classLink RL 15 "java/util/NoSuchElementException", Cond.methodLink RL 47 yX4_keep, Cond.instanceMethod yX4_keep, Cond.selects RX4 yX4_keep yX4_keep, Cond.initialized RX4, Cond.code yX4_keep cX4_keep 1 (some .int), Cond.fieldLink RX4 64 "KinLedger" "rememberedCount" "I", Cond.fieldLink RX4 60 "KinLedger" "remembered" "[LKinLedger$Rows;", Cond.fieldLink RX4 53 "KinLedger" "rows" "LKinLedger$Rows;", Cond.methodLink RX4 78 yX4_needElement, Cond.static yX4_needElement, Cond.code yX4_needElement cX4_needElement 1 none, Cond.classLink RX4 193 "java/util/NoSuchElementException", Cond.initialized "java/util/NoSuchElementException", Cond.methodLink RX4 125 yX2_become, Cond.instanceMethod yX2_become, Cond.selects RX2 yX2_become yX2_become, Cond.initialized RX2, Cond.code yX2_become cX2_become 2 none, Cond.fieldLink RX2 9 "KinLedger$Rows" "tables" "[I", Cond.methodLink RX2 24 arraycopyName, Cond.native arraycopyName, Cond.static arraycopyName, Cond.initialized "java/lang/System"]
def wsL_keep_r2 : List Cond := [Cond.fieldLink RX2 15 "KinLedger$Rows" "cells" "[I"]
def wsL_keep : List Cond := .codeWith yL_keep cL_keep 3 (some .int) [(0, 8, 11, 15)] :: ((wsL_keep_r1 ++ wsL_keep_r2) ++ wsX40 ++ wsX20 ++ (vx_at0 RX4 195 "java/util/NoSuchElementException" ["java/lang/RuntimeException", "java/lang/Exception"]).filter goodWord)
def wsL_back_r1 : List Cond := [Cond.classLink RL 15 "java/util/NoSuchElementException", Cond.classLink RL 21 "java/lang/IllegalStateException", Cond.methodLink RL 51 yX4_back, Cond.instanceMethod yX4_back, Cond.selects RX4 yX4_back yX4_back, Cond.initialized RX4, Cond.code yX4_back cX4_back 3 (some .int), Cond.fieldLink RX4 64 "KinLedger" "rememberedCount" "I", Cond.fieldLink RX4 60 "KinLedger" "remembered" "[LKinLedger$Rows;", Cond.fieldLink RX4 53 "KinLedger" "rows" "LKinLedger$Rows;", Cond.methodLink RX4 78 yX4_needElement, Cond.static yX4_needElement, Cond.code yX4_needElement cX4_needElement 1 none, Cond.classLink RX4 193 "java/util/NoSuchElementException", Cond.initialized "java/util/NoSuchElementException", Cond.methodLink RX4 173 yX4_whyBroken, Cond.instanceMethod yX4_whyBroken, Cond.selects RX4 yX4_whyBroken yX4_whyBroken, Cond.code yX4_whyBroken cX4_whyBroken 3 (some .int), Cond.fieldLink RX4 13 "KinLedger" "tableCount" "I", Cond.fieldLink RX4 32 "KinLedger" "singleCount" "I", Cond.fieldLink RX4 28 "KinLedger" "singles" "[LKinLedger$Single;", Cond.fieldLink RX4 23 "KinLedger" "linkCount" "I", Cond.fieldLink RX4 19 "KinLedger" "links" "[LKinLedger$Link;"]
def wsL_back_r2 : List Cond := [Cond.fieldLink RX4 41 "KinLedger" "checkCount" "I", Cond.fieldLink RX4 37 "KinLedger" "checks" "[LKinLedger$Check;", Cond.methodLink RX4 199 yX2_hasTwins, Cond.instanceMethod yX2_hasTwins, Cond.selects RX2 yX2_hasTwins yX2_hasTwins, Cond.initialized RX2, Cond.code yX2_hasTwins cX2_hasTwins 4 (some .boolean), Cond.fieldLink RX2 9 "KinLedger$Rows" "tables" "[I", Cond.methodLink RX2 30 yX2_at, Cond.instanceMethod yX2_at, Cond.selects RX2 yX2_at yX2_at, Cond.code yX2_at cX2_at 3 (some .int), Cond.fieldLink RX2 15 "KinLedger$Rows" "cells" "[I", Cond.methodLink RX2 37 yX2_hasTwinBefore, Cond.instanceMethod yX2_hasTwinBefore, Cond.selects RX2 yX2_hasTwinBefore yX2_hasTwinBefore, Cond.code yX2_hasTwinBefore cX2_hasTwinBefore 4 (some .boolean), Cond.methodLink RX4 103 yX3_isBroken, Cond.instanceMethod yX3_isBroken, Cond.selects RX3 yX3_isBroken yX3_isBroken, Cond.initialized RX3, Cond.code yX3_isBroken cX3_isBroken 2 (some .boolean), Cond.fieldLink RX3 7 "KinLedger$Single" "table" "I", Cond.fieldLink RX3 13 "KinLedger$Single" "column" "I"]
def wsL_back_r3 : List Cond := [Cond.methodLink RX3 16 yX2_hasTwins, Cond.methodLink RX4 92 yX1_isBroken, Cond.instanceMethod yX1_isBroken, Cond.selects RX1 yX1_isBroken yX1_isBroken, Cond.initialized RX1, Cond.code yX1_isBroken cX1_isBroken 3 (some .boolean), Cond.methodLink RX1 24 yX1_refers, Cond.instanceMethod yX1_refers, Cond.selects RX1 yX1_refers yX1_refers, Cond.code yX1_refers cX1_refers 3 (some .boolean), Cond.fieldLink RX1 9 "KinLedger$Link" "child" "I", Cond.fieldLink RX1 15 "KinLedger$Link" "column" "I", Cond.methodLink RX1 41 yX2_holds, Cond.instanceMethod yX2_holds, Cond.selects RX2 yX2_holds yX2_holds, Cond.code yX2_holds cX2_holds 3 (some .boolean), Cond.methodLink RX1 28 yX2_at, Cond.methodLink RX1 37 yX1_target, Cond.instanceMethod yX1_target, Cond.selects RX1 yX1_target yX1_target, Cond.code yX1_target cX1_target 3 (some .int), Cond.fieldLink RX1 18 "KinLedger$Link" "parent" "I", Cond.methodLink RX1 34 yX2_find, Cond.instanceMethod yX2_find]
def wsL_back_r4 : List Cond := [Cond.selects RX2 yX2_find yX2_find, Cond.code yX2_find cX2_find 4 (some .int), Cond.methodLink RX4 120 yX0_isBroken, Cond.instanceMethod yX0_isBroken, Cond.selects RX0 yX0_isBroken yX0_isBroken, Cond.initialized RX0, Cond.code yX0_isBroken cX0_isBroken 3 (some .boolean), Cond.fieldLink RX0 9 "KinLedger$Check" "table" "I", Cond.methodLink RX0 26 yX2_holds, Cond.methodLink RX0 32 yX0_result, Cond.instanceMethod yX0_result, Cond.selects RX0 yX0_result yX0_result, Cond.code yX0_result cX0_result 6 (some .int), Cond.fieldLink RX0 15 "KinLedger$Check" "words" "[I", Cond.fieldLink RX0 19 "KinLedger$Check" "pile" "[I", Cond.methodLink RX0 22 yX0_taken, Cond.static yX0_taken, Cond.code yX0_taken cX0_taken 1 (some .int), Cond.methodLink RX0 36 yX0_laid, Cond.static yX0_laid, Cond.code yX0_laid cX0_laid 3 (some .int), Cond.methodLink RX0 44 yX2_at, Cond.methodLink RX0 40 yX0_worked, Cond.instanceMethod yX0_worked]
def wsL_back_r5 : List Cond := [Cond.selects RX0 yX0_worked yX0_worked, Cond.code yX0_worked cX0_worked 5 (some .int), Cond.methodLink RX4 96 yX4_refuseIf, Cond.instanceMethod yX4_refuseIf, Cond.selects RX4 yX4_refuseIf yX4_refuseIf, Cond.code yX4_refuseIf cX4_refuseIf 3 none, Cond.classLink RX4 196 "java/lang/IllegalStateException", Cond.initialized "java/lang/IllegalStateException", Cond.fieldLink RX4 71 "KinLedger" "latestReason" "I", Cond.methodLink RX4 125 yX2_become, Cond.instanceMethod yX2_become, Cond.selects RX2 yX2_become yX2_become, Cond.code yX2_become cX2_become 2 none, Cond.methodLink RX2 24 arraycopyName, Cond.native arraycopyName, Cond.static arraycopyName, Cond.initialized "java/lang/System"]
def wsL_back : List Cond := .codeWith yL_back cL_back 3 (some .int) [(0, 8, 11, 15), (0, 8, 14, 21)] :: ((wsL_back_r1 ++ (wsL_back_r2 ++ (wsL_back_r3 ++ (wsL_back_r4 ++ wsL_back_r5)))) ++ wsX40 ++ wsX20 ++ wsX30 ++ wsX10 ++ wsX00 ++ (vx_at0 RX4 195 "java/util/NoSuchElementException" ["java/lang/RuntimeException", "java/lang/Exception"]).filter goodWord ++ (vx_at0 RX4 198 "java/lang/IllegalStateException" ["java/lang/RuntimeException", "java/lang/Exception"]).filter goodWord)
def wsL_has_r1 : List Cond := [Cond.classLink RL 13 "java/lang/IllegalArgumentException", Cond.methodLink RL 54 yX4_has, Cond.instanceMethod yX4_has, Cond.selects RX4 yX4_has yX4_has, Cond.initialized RX4, Cond.code yX4_has cX4_has 3 (some .boolean), Cond.fieldLink RX4 53 "KinLedger" "rows" "LKinLedger$Rows;", Cond.methodLink RX4 85 yX4_isTable, Cond.instanceMethod yX4_isTable, Cond.selects RX4 yX4_isTable yX4_isTable, Cond.code yX4_isTable cX4_isTable 2 (some .boolean), Cond.fieldLink RX4 13 "KinLedger" "tableCount" "I", Cond.methodLink RX4 74 yX4_needArgument, Cond.static yX4_needArgument, Cond.code yX4_needArgument cX4_needArgument 1 none, Cond.classLink RX4 190 "java/lang/IllegalArgumentException", Cond.initialized "java/lang/IllegalArgumentException", Cond.methodLink RX4 156 yX2_find, Cond.instanceMethod yX2_find, Cond.selects RX2 yX2_find yX2_find, Cond.initialized RX2, Cond.code yX2_find cX2_find 4 (some .int), Cond.fieldLink RX2 9 "KinLedger$Rows" "tables" "[I", Cond.methodLink RX2 30 yX2_at]
def wsL_has_r2 : List Cond := [Cond.instanceMethod yX2_at, Cond.selects RX2 yX2_at yX2_at, Cond.code yX2_at cX2_at 3 (some .int), Cond.fieldLink RX2 15 "KinLedger$Rows" "cells" "[I"]
def wsL_has : List Cond := .codeWith yL_has cL_has 5 (some .int) [(0, 17, 20, 13)] :: ((wsL_has_r1 ++ wsL_has_r2) ++ wsX40 ++ wsX20 ++ (vx_at0 RX4 192 "java/lang/IllegalArgumentException" ["java/lang/RuntimeException", "java/lang/Exception"]).filter goodWord)
def wsL_cell_r1 : List Cond := [Cond.classLink RL 13 "java/lang/IllegalArgumentException", Cond.classLink RL 15 "java/util/NoSuchElementException", Cond.methodLink RL 58 yX4_cell, Cond.instanceMethod yX4_cell, Cond.selects RX4 yX4_cell yX4_cell, Cond.initialized RX4, Cond.code yX4_cell cX4_cell 5 (some .int), Cond.fieldLink RX4 53 "KinLedger" "rows" "LKinLedger$Rows;", Cond.methodLink RX4 140 yX4_isColumn, Cond.instanceMethod yX4_isColumn, Cond.selects RX4 yX4_isColumn yX4_isColumn, Cond.code yX4_isColumn cX4_isColumn 3 (some .boolean), Cond.fieldLink RX4 9 "KinLedger" "columnCounts" "[I", Cond.methodLink RX4 85 yX4_isTable, Cond.instanceMethod yX4_isTable, Cond.selects RX4 yX4_isTable yX4_isTable, Cond.code yX4_isTable cX4_isTable 2 (some .boolean), Cond.fieldLink RX4 13 "KinLedger" "tableCount" "I", Cond.methodLink RX4 74 yX4_needArgument, Cond.static yX4_needArgument, Cond.code yX4_needArgument cX4_needArgument 1 none, Cond.classLink RX4 190 "java/lang/IllegalArgumentException", Cond.initialized "java/lang/IllegalArgumentException", Cond.methodLink RX4 156 yX2_find]
def wsL_cell_r2 : List Cond := [Cond.instanceMethod yX2_find, Cond.selects RX2 yX2_find yX2_find, Cond.initialized RX2, Cond.code yX2_find cX2_find 4 (some .int), Cond.fieldLink RX2 9 "KinLedger$Rows" "tables" "[I", Cond.methodLink RX2 30 yX2_at, Cond.instanceMethod yX2_at, Cond.selects RX2 yX2_at yX2_at, Cond.code yX2_at cX2_at 3 (some .int), Cond.fieldLink RX2 15 "KinLedger$Rows" "cells" "[I", Cond.methodLink RX4 78 yX4_needElement, Cond.static yX4_needElement, Cond.code yX4_needElement cX4_needElement 1 none, Cond.classLink RX4 193 "java/util/NoSuchElementException", Cond.initialized "java/util/NoSuchElementException", Cond.methodLink RX4 160 yX2_at]
def wsL_cell : List Cond := .codeWith yL_cell cL_cell 6 (some .int) [(0, 12, 15, 13), (0, 12, 19, 15)] :: ((wsL_cell_r1 ++ wsL_cell_r2) ++ wsX40 ++ wsX20 ++ (vx_at0 RX4 192 "java/lang/IllegalArgumentException" ["java/lang/RuntimeException", "java/lang/Exception"]).filter goodWord ++ (vx_at0 RX4 195 "java/util/NoSuchElementException" ["java/lang/RuntimeException", "java/lang/Exception"]).filter goodWord)
def wsL_key_r1 : List Cond := [Cond.classLink RL 13 "java/lang/IllegalArgumentException", Cond.classLink RL 64 "java/lang/IndexOutOfBoundsException", Cond.methodLink RL 61 yX4_key, Cond.instanceMethod yX4_key, Cond.selects RX4 yX4_key yX4_key, Cond.initialized RX4, Cond.code yX4_key cX4_key 4 (some .int), Cond.classLink RX4 180 "java/lang/IndexOutOfBoundsException", Cond.initialized "java/lang/IndexOutOfBoundsException", Cond.fieldLink RX4 53 "KinLedger" "rows" "LKinLedger$Rows;", Cond.methodLink RX4 85 yX4_isTable, Cond.instanceMethod yX4_isTable, Cond.selects RX4 yX4_isTable yX4_isTable, Cond.code yX4_isTable cX4_isTable 2 (some .boolean), Cond.fieldLink RX4 13 "KinLedger" "tableCount" "I", Cond.methodLink RX4 74 yX4_needArgument, Cond.static yX4_needArgument, Cond.code yX4_needArgument cX4_needArgument 1 none, Cond.classLink RX4 190 "java/lang/IllegalArgumentException", Cond.initialized "java/lang/IllegalArgumentException", Cond.methodLink RX4 177 yX2_placeOfRank, Cond.instanceMethod yX2_placeOfRank, Cond.selects RX2 yX2_placeOfRank yX2_placeOfRank, Cond.initialized RX2]
def wsL_key_r2 : List Cond := [Cond.code yX2_placeOfRank cX2_placeOfRank 4 (some .int), Cond.fieldLink RX2 9 "KinLedger$Rows" "tables" "[I", Cond.methodLink RX2 30 yX2_at, Cond.instanceMethod yX2_at, Cond.selects RX2 yX2_at yX2_at, Cond.code yX2_at cX2_at 3 (some .int), Cond.fieldLink RX2 15 "KinLedger$Rows" "cells" "[I", Cond.methodLink RX2 34 yX2_lesserKeys, Cond.instanceMethod yX2_lesserKeys, Cond.selects RX2 yX2_lesserKeys yX2_lesserKeys, Cond.code yX2_lesserKeys cX2_lesserKeys 5 (some .int), Cond.methodLink RX4 160 yX2_at]
def wsL_key : List Cond := .codeWith yL_key cL_key 5 (some .int) [(0, 10, 13, 13), (0, 10, 17, 64)] :: ((wsL_key_r1 ++ wsL_key_r2) ++ wsX40 ++ wsX20 ++ (vx_at0 RX4 182 "java/lang/IndexOutOfBoundsException" ["java/lang/RuntimeException", "java/lang/Exception"]).filter goodWord ++ (vx_at0 RX4 192 "java/lang/IllegalArgumentException" ["java/lang/RuntimeException", "java/lang/Exception"]).filter goodWord)
def wsL_count : List Cond := .codeWith yL_count cL_count 4 (some .int) [(0, 9, 12, 13)] :: ([.classLink RL 13 "java/lang/IllegalArgumentException", .methodLink RL 66 yX4_count, .instanceMethod yX4_count, .selects RX4 yX4_count yX4_count, .initialized RX4, .code yX4_count cX4_count 2 (some .int), .fieldLink RX4 53 "KinLedger" "rows" "LKinLedger$Rows;", .methodLink RX4 85 yX4_isTable, .instanceMethod yX4_isTable, .selects RX4 yX4_isTable yX4_isTable, .code yX4_isTable cX4_isTable 2 (some .boolean), .fieldLink RX4 13 "KinLedger" "tableCount" "I", .methodLink RX4 74 yX4_needArgument, .static yX4_needArgument, .code yX4_needArgument cX4_needArgument 1 none, .classLink RX4 190 "java/lang/IllegalArgumentException", .initialized "java/lang/IllegalArgumentException", .methodLink RX4 169 yX2_size, .instanceMethod yX2_size, .selects RX2 yX2_size yX2_size, .initialized RX2, .code yX2_size cX2_size 4 (some .int), .fieldLink RX2 9 "KinLedger$Rows" "tables" "[I"] ++ wsX40 ++ wsX20 ++ (vx_at0 RX4 192 "java/lang/IllegalArgumentException" ["java/lang/RuntimeException", "java/lang/Exception"]).filter goodWord)
def wsL_referring_r1 : List Cond := [Cond.classLink RL 13 "java/lang/IllegalArgumentException", Cond.classLink RL 15 "java/util/NoSuchElementException", Cond.methodLink RL 69 yX4_referring, Cond.instanceMethod yX4_referring, Cond.selects RX4 yX4_referring yX4_referring, Cond.initialized RX4, Cond.code yX4_referring cX4_referring 6 (some .int), Cond.fieldLink RX4 23 "KinLedger" "linkCount" "I", Cond.fieldLink RX4 53 "KinLedger" "rows" "LKinLedger$Rows;", Cond.fieldLink RX4 19 "KinLedger" "links" "[LKinLedger$Link;", Cond.fieldLink RX4 183 "KinLedger$Link" "parent" "I", Cond.methodLink RX4 74 yX4_needArgument, Cond.static yX4_needArgument, Cond.code yX4_needArgument cX4_needArgument 1 none, Cond.classLink RX4 190 "java/lang/IllegalArgumentException", Cond.initialized "java/lang/IllegalArgumentException", Cond.methodLink RX4 156 yX2_find, Cond.instanceMethod yX2_find, Cond.selects RX2 yX2_find yX2_find, Cond.initialized RX2, Cond.code yX2_find cX2_find 4 (some .int), Cond.fieldLink RX2 9 "KinLedger$Rows" "tables" "[I", Cond.methodLink RX2 30 yX2_at, Cond.instanceMethod yX2_at]
def wsL_referring_r2 : List Cond := [Cond.selects RX2 yX2_at yX2_at, Cond.code yX2_at cX2_at 3 (some .int), Cond.fieldLink RX2 15 "KinLedger$Rows" "cells" "[I", Cond.methodLink RX4 78 yX4_needElement, Cond.static yX4_needElement, Cond.code yX4_needElement cX4_needElement 1 none, Cond.classLink RX4 193 "java/util/NoSuchElementException", Cond.initialized "java/util/NoSuchElementException", Cond.methodLink RX4 186 yX1_target, Cond.instanceMethod yX1_target, Cond.selects RX1 yX1_target yX1_target, Cond.initialized RX1, Cond.code yX1_target cX1_target 3 (some .int), Cond.fieldLink RX1 18 "KinLedger$Link" "parent" "I", Cond.fieldLink RX1 15 "KinLedger$Link" "column" "I", Cond.methodLink RX1 24 yX1_refers, Cond.instanceMethod yX1_refers, Cond.selects RX1 yX1_refers yX1_refers, Cond.code yX1_refers cX1_refers 3 (some .boolean), Cond.fieldLink RX1 9 "KinLedger$Link" "child" "I", Cond.methodLink RX1 41 yX2_holds, Cond.instanceMethod yX2_holds, Cond.selects RX2 yX2_holds yX2_holds, Cond.code yX2_holds cX2_holds 3 (some .boolean)]
def wsL_referring_r3 : List Cond := [Cond.methodLink RX1 28 yX2_at, Cond.methodLink RX1 34 yX2_find]
def wsL_referring : List Cond := .codeWith yL_referring cL_referring 5 (some .int) [(0, 10, 13, 13), (0, 10, 17, 15)] :: ((wsL_referring_r1 ++ (wsL_referring_r2 ++ wsL_referring_r3)) ++ wsX40 ++ wsX10 ++ wsX20 ++ (vx_at0 RX4 192 "java/lang/IllegalArgumentException" ["java/lang/RuntimeException", "java/lang/Exception"]).filter goodWord ++ (vx_at0 RX4 195 "java/util/NoSuchElementException" ["java/lang/RuntimeException", "java/lang/Exception"]).filter goodWord)
def wsL_law0_r1 : List Cond := [Cond.classLink RL 8 RX4, Cond.instantiable RX4 16, Cond.initialized RX4, Cond.classLink RL 73 RX5, Cond.instantiable RX5 31, Cond.initialized RX5, Cond.arrayClass .long, Cond.methodLink RL 72 yX4_init, Cond.instanceMethod yX4_init, Cond.code yX4_init cX4_init 2 none, Cond.methodLink RX4 1 objectInit, Cond.instanceMethod objectInit, Cond.code objectInit ⟨#[0xb1]⟩ 1 none, Cond.arrayClass .int, Cond.fieldLink RX4 9 "KinLedger" "columnCounts" "[I", Cond.fieldLink RX4 13 "KinLedger" "tableCount" "I", Cond.classLink RX4 17 RX1, Cond.fieldLink RX4 19 "KinLedger" "links" "[LKinLedger$Link;", Cond.fieldLink RX4 23 "KinLedger" "linkCount" "I", Cond.classLink RX4 26 RX3, Cond.fieldLink RX4 28 "KinLedger" "singles" "[LKinLedger$Single;", Cond.fieldLink RX4 32 "KinLedger" "singleCount" "I", Cond.classLink RX4 35 RX0, Cond.fieldLink RX4 37 "KinLedger" "checks" "[LKinLedger$Check;"]
def wsL_law0_r2 : List Cond := [Cond.fieldLink RX4 41 "KinLedger" "checkCount" "I", Cond.fieldLink RX4 44 "KinLedger" "waiting" "[I", Cond.fieldLink RX4 47 "KinLedger" "waitingCount" "I", Cond.classLink RX4 50 RX2, Cond.instantiable RX2 2, Cond.initialized RX2, Cond.fieldLink RX4 53 "KinLedger" "rows" "LKinLedger$Rows;", Cond.fieldLink RX4 57 "KinLedger" "draft" "LKinLedger$Rows;", Cond.fieldLink RX4 60 "KinLedger" "remembered" "[LKinLedger$Rows;", Cond.fieldLink RX4 64 "KinLedger" "rememberedCount" "I", Cond.arrayClass .boolean, Cond.fieldLink RX4 67 "KinLedger" "going" "[Z", Cond.fieldLink RX4 71 "KinLedger" "latestReason" "I", Cond.methodLink RX4 52 yX2_init, Cond.instanceMethod yX2_init, Cond.code yX2_init cX2_init 1 none, Cond.methodLink RX2 3 objectInit, Cond.fieldLink RX2 9 "KinLedger$Rows" "tables" "[I", Cond.fieldLink RX2 15 "KinLedger$Rows" "cells" "[I", Cond.methodLink RX2 18 yJ7_fill_53178, Cond.static yJ7_fill_53178, Cond.initialized RJ7, Cond.code yJ7_fill_53178 cJ7_fill_53178 4 none, Cond.methodLink RL 75 yX5_init]
def wsL_law0_r3 : List Cond := [Cond.instanceMethod yX5_init, Cond.code yX5_init cX5_init 1 none, Cond.methodLink RX5 1 objectInit, Cond.fieldLink RX5 7 "KinLedgerModel" "columns" "[I", Cond.fieldLink RX5 13 "KinLedgerModel" "of" "[I", Cond.fieldLink RX5 16 "KinLedgerModel" "cells" "[I", Cond.fieldLink RX5 19 "KinLedgerModel" "oldOf" "[I", Cond.fieldLink RX5 22 "KinLedgerModel" "old" "[I", Cond.fieldLink RX5 25 "KinLedgerModel" "gone" "[Z", Cond.fieldLink RX5 29 "KinLedgerModel" "child" "[I", Cond.fieldLink RX5 32 "KinLedgerModel" "linkColumn" "[I", Cond.fieldLink RX5 35 "KinLedgerModel" "parent" "[I", Cond.fieldLink RX5 38 "KinLedgerModel" "ways" "[I", Cond.fieldLink RX5 41 "KinLedgerModel" "singleTable" "[I", Cond.fieldLink RX5 44 "KinLedgerModel" "singleColumn" "[I", Cond.fieldLink RX5 47 "KinLedgerModel" "checkTable" "[I", Cond.fieldLink RX5 50 "KinLedgerModel" "checkLength" "[I", Cond.fieldLink RX5 53 "KinLedgerModel" "checkWords" "[I", Cond.fieldLink RX5 56 "KinLedgerModel" "words" "[I", Cond.fieldLink RX5 59 "KinLedgerModel" "pile" "[I", Cond.fieldLink RX5 62 "KinLedgerModel" "keptRows" "[I", Cond.fieldLink RX5 65 "KinLedgerModel" "keptOf" "[I", Cond.fieldLink RX5 68 "KinLedgerModel" "keptCells" "[I", Cond.methodLink RL 76 yL_table]
def wsL_law0_r4 : List Cond := [Cond.static yL_table, Cond.initialized RL, Cond.codeWith yL_table cL_table 4 (some .int) [(0, 9, 12, 13), (0, 9, 15, 15)], Cond.classLink RL 13 "java/lang/IllegalArgumentException", Cond.classLink RL 15 "java/util/NoSuchElementException", Cond.methodLink RL 7 yX4_table, Cond.instanceMethod yX4_table, Cond.selects RX4 yX4_table yX4_table, Cond.code yX4_table cX4_table 2 (some .int), Cond.methodLink RX4 74 yX4_needArgument, Cond.static yX4_needArgument, Cond.code yX4_needArgument cX4_needArgument 1 none, Cond.classLink RX4 190 "java/lang/IllegalArgumentException", Cond.initialized "java/lang/IllegalArgumentException", Cond.methodLink RX4 78 yX4_needElement, Cond.static yX4_needElement, Cond.code yX4_needElement cX4_needElement 1 none, Cond.classLink RX4 193 "java/util/NoSuchElementException", Cond.initialized "java/util/NoSuchElementException", Cond.methodLink RL 81 yX5_table, Cond.instanceMethod yX5_table, Cond.selects RX5 yX5_table yX5_table, Cond.code yX5_table cX5_table 2 (some .int), Cond.fieldLink RX5 75 "KinLedgerModel" "tables" "I"]
def wsL_law0_r5 : List Cond := [Cond.fieldLink RX5 71 "KinLedgerModel" "code" "I", Cond.methodLink RL 82 yX5_thrown, Cond.instanceMethod yX5_thrown, Cond.selects RX5 yX5_thrown yX5_thrown, Cond.code yX5_thrown cX5_thrown 1 (some .int), Cond.methodLink RL 85 yL_link, Cond.static yL_link, Cond.codeWith yL_link cL_link 7 (some .int) [(0, 14, 17, 13), (0, 14, 21, 15), (0, 14, 25, 21)], Cond.classLink RL 21 "java/lang/IllegalStateException", Cond.methodLink RL 17 yX4_link, Cond.instanceMethod yX4_link, Cond.selects RX4 yX4_link yX4_link, Cond.code yX4_link cX4_link 6 (some .int), Cond.instantiable RX1 4, Cond.initialized RX1, Cond.methodLink RX4 81 yX4_isCellColumn, Cond.instanceMethod yX4_isCellColumn, Cond.selects RX4 yX4_isCellColumn yX4_isCellColumn, Cond.code yX4_isCellColumn cX4_isCellColumn 3 (some .boolean), Cond.methodLink RX4 140 yX4_isColumn, Cond.instanceMethod yX4_isColumn, Cond.selects RX4 yX4_isColumn yX4_isColumn, Cond.code yX4_isColumn cX4_isColumn 3 (some .boolean), Cond.methodLink RX4 85 yX4_isTable]
def wsL_law0_r6 : List Cond := [Cond.instanceMethod yX4_isTable, Cond.selects RX4 yX4_isTable yX4_isTable, Cond.code yX4_isTable cX4_isTable 2 (some .boolean), Cond.methodLink RX4 89 yX1_init, Cond.instanceMethod yX1_init, Cond.code yX1_init cX1_init 5 none, Cond.methodLink RX1 3 objectInit, Cond.fieldLink RX1 9 "KinLedger$Link" "child" "I", Cond.fieldLink RX1 15 "KinLedger$Link" "column" "I", Cond.fieldLink RX1 18 "KinLedger$Link" "parent" "I", Cond.fieldLink RX1 21 "KinLedger$Link" "way" "I", Cond.methodLink RX4 92 yX1_isBroken, Cond.instanceMethod yX1_isBroken, Cond.selects RX1 yX1_isBroken yX1_isBroken, Cond.code yX1_isBroken cX1_isBroken 3 (some .boolean), Cond.methodLink RX1 24 yX1_refers, Cond.instanceMethod yX1_refers, Cond.selects RX1 yX1_refers yX1_refers, Cond.code yX1_refers cX1_refers 3 (some .boolean), Cond.methodLink RX1 41 yX2_holds, Cond.instanceMethod yX2_holds, Cond.selects RX2 yX2_holds yX2_holds, Cond.code yX2_holds cX2_holds 3 (some .boolean), Cond.methodLink RX1 28 yX2_at]
def wsL_law0_r7 : List Cond := [Cond.instanceMethod yX2_at, Cond.selects RX2 yX2_at yX2_at, Cond.code yX2_at cX2_at 3 (some .int), Cond.methodLink RX1 37 yX1_target, Cond.instanceMethod yX1_target, Cond.selects RX1 yX1_target yX1_target, Cond.code yX1_target cX1_target 3 (some .int), Cond.methodLink RX1 34 yX2_find, Cond.instanceMethod yX2_find, Cond.selects RX2 yX2_find yX2_find, Cond.code yX2_find cX2_find 4 (some .int), Cond.methodLink RX2 30 yX2_at, Cond.methodLink RX4 96 yX4_refuseIf, Cond.instanceMethod yX4_refuseIf, Cond.selects RX4 yX4_refuseIf yX4_refuseIf, Cond.code yX4_refuseIf cX4_refuseIf 3 none, Cond.classLink RX4 196 "java/lang/IllegalStateException", Cond.initialized "java/lang/IllegalStateException", Cond.methodLink RL 88 yX5_link, Cond.instanceMethod yX5_link, Cond.selects RX5 yX5_link yX5_link, Cond.code yX5_link cX5_link 5 (some .int), Cond.fieldLink RX5 106 "KinLedgerModel" "links" "I", Cond.fieldLink RX5 121 "KinLedgerModel" "reason" "I"]
def wsL_law0_r8 : List Cond := [Cond.methodLink RX5 118 yX5_isColumn, Cond.instanceMethod yX5_isColumn, Cond.selects RX5 yX5_isColumn yX5_isColumn, Cond.code yX5_isColumn cX5_isColumn 3 (some .boolean), Cond.methodLink RX5 78 yX5_isTable, Cond.instanceMethod yX5_isTable, Cond.selects RX5 yX5_isTable yX5_isTable, Cond.code yX5_isTable cX5_isTable 2 (some .boolean), Cond.methodLink RX5 109 yX5_breaksLink, Cond.instanceMethod yX5_breaksLink, Cond.selects RX5 yX5_breaksLink yX5_breaksLink, Cond.code yX5_breaksLink cX5_breaksLink 4 (some .boolean), Cond.fieldLink RX5 82 "KinLedgerModel" "rows" "I", Cond.methodLink RX5 85 yX5_find, Cond.instanceMethod yX5_find, Cond.selects RX5 yX5_find yX5_find, Cond.code yX5_find cX5_find 5 (some .int), Cond.methodLink RL 89 yL_single, Cond.static yL_single, Cond.codeWith yL_single cL_single 5 (some .int) [(0, 10, 13, 13), (0, 10, 17, 15), (0, 10, 21, 21)], Cond.methodLink RL 23 yX4_single, Cond.instanceMethod yX4_single, Cond.selects RX4 yX4_single yX4_single, Cond.code yX4_single cX4_single 4 (some .int)]
def wsL_law0_r9 : List Cond := [Cond.instantiable RX3 2, Cond.initialized RX3, Cond.methodLink RX4 100 yX3_init, Cond.instanceMethod yX3_init, Cond.code yX3_init cX3_init 3 none, Cond.methodLink RX3 1 objectInit, Cond.fieldLink RX3 7 "KinLedger$Single" "table" "I", Cond.fieldLink RX3 13 "KinLedger$Single" "column" "I", Cond.methodLink RX4 103 yX3_isBroken, Cond.instanceMethod yX3_isBroken, Cond.selects RX3 yX3_isBroken yX3_isBroken, Cond.code yX3_isBroken cX3_isBroken 2 (some .boolean), Cond.methodLink RX3 16 yX2_hasTwins, Cond.instanceMethod yX2_hasTwins, Cond.selects RX2 yX2_hasTwins yX2_hasTwins, Cond.code yX2_hasTwins cX2_hasTwins 4 (some .boolean), Cond.methodLink RX2 37 yX2_hasTwinBefore, Cond.instanceMethod yX2_hasTwinBefore, Cond.selects RX2 yX2_hasTwinBefore yX2_hasTwinBefore, Cond.code yX2_hasTwinBefore cX2_hasTwinBefore 4 (some .boolean), Cond.methodLink RL 92 yX5_single, Cond.instanceMethod yX5_single, Cond.selects RX5 yX5_single yX5_single, Cond.code yX5_single cX5_single 3 (some .int)]
def wsL_law0_r10 : List Cond := [Cond.fieldLink RX5 103 "KinLedgerModel" "singles" "I", Cond.methodLink RX5 99 yX5_twice, Cond.instanceMethod yX5_twice, Cond.selects RX5 yX5_twice yX5_twice, Cond.code yX5_twice cX5_twice 5 (some .boolean), Cond.methodLink RL 93 yL_word, Cond.static yL_word, Cond.codeWith yL_word cL_word 4 (some .int) [(0, 9, 12, 13), (0, 9, 15, 15)], Cond.methodLink RL 27 yX4_word, Cond.instanceMethod yX4_word, Cond.selects RX4 yX4_word yX4_word, Cond.code yX4_word cX4_word 2 (some .int), Cond.methodLink RX4 104 yX0_isWord, Cond.static yX0_isWord, Cond.initialized RX0, Cond.code yX0_isWord cX0_isWord 1 (some .boolean), Cond.methodLink RL 95 yX5_word, Cond.instanceMethod yX5_word, Cond.selects RX5 yX5_word yX5_word, Cond.code yX5_word cX5_word 3 (some .int), Cond.fieldLink RX5 124 "KinLedgerModel" "waiting" "I", Cond.methodLink RL 96 yL_check, Cond.static yL_check, Cond.codeWith yL_check cL_check 4 (some .int) [(0, 9, 12, 13), (0, 9, 15, 15), (0, 9, 18, 21)]]
def wsL_law0_r11 : List Cond := [Cond.methodLink RL 30 yX4_check, Cond.instanceMethod yX4_check, Cond.selects RX4 yX4_check yX4_check, Cond.code yX4_check cX4_check 4 (some .int), Cond.instantiable RX0 3, Cond.methodLink RX4 107 yJ7_copyOf_59c91, Cond.static yJ7_copyOf_59c91, Cond.code yJ7_copyOf_59c91 cJ7_copyOf_59c91 3 (some (.array .int)), Cond.methodLink RJ7 316 ⟨"[I", "clone", "()Ljava/lang/Object;"⟩, Cond.sameMethod "[I" "java/lang/Object" "clone" "()Ljava/lang/Object;", Cond.native ⟨"java/lang/Object", "clone", "()Ljava/lang/Object;"⟩, Cond.instanceMethod ⟨"java/lang/Object", "clone", "()Ljava/lang/Object;"⟩, Cond.selects "[I" ⟨"[I", "clone", "()Ljava/lang/Object;"⟩ ⟨"java/lang/Object", "clone", "()Ljava/lang/Object;"⟩, Cond.classLink RJ7 317 "[I", Cond.methodLink RJ7 304 Lib.Math.min.name, Cond.static Lib.Math.min.name, Cond.initialized "java/lang/Math", Cond.code Lib.Math.min.name Lib.Math.min.code 2 (some .int), Cond.methodLink RJ7 150 arraycopyName, Cond.native arraycopyName, Cond.static arraycopyName, Cond.initialized "java/lang/System", Cond.methodLink RX4 113 yX0_areRight, Cond.static yX0_areRight]
def wsL_law0_r12 : List Cond := [Cond.code yX0_areRight cX0_areRight 6 (some .boolean), Cond.methodLink RX0 22 yX0_taken, Cond.static yX0_taken, Cond.code yX0_taken cX0_taken 1 (some .int), Cond.methodLink RX4 117 yX0_init, Cond.instanceMethod yX0_init, Cond.code yX0_init cX0_init 3 none, Cond.methodLink RX0 3 objectInit, Cond.fieldLink RX0 9 "KinLedger$Check" "table" "I", Cond.fieldLink RX0 15 "KinLedger$Check" "words" "[I", Cond.fieldLink RX0 19 "KinLedger$Check" "pile" "[I", Cond.methodLink RX4 120 yX0_isBroken, Cond.instanceMethod yX0_isBroken, Cond.selects RX0 yX0_isBroken yX0_isBroken, Cond.code yX0_isBroken cX0_isBroken 3 (some .boolean), Cond.methodLink RX0 26 yX2_holds, Cond.methodLink RX0 32 yX0_result, Cond.instanceMethod yX0_result, Cond.selects RX0 yX0_result yX0_result, Cond.code yX0_result cX0_result 6 (some .int), Cond.methodLink RX0 36 yX0_laid, Cond.static yX0_laid, Cond.code yX0_laid cX0_laid 3 (some .int), Cond.methodLink RX0 44 yX2_at]
def wsL_law0_r13 : List Cond := [Cond.methodLink RX0 40 yX0_worked, Cond.instanceMethod yX0_worked, Cond.selects RX0 yX0_worked yX0_worked, Cond.code yX0_worked cX0_worked 5 (some .int), Cond.methodLink RL 98 yX5_check, Cond.instanceMethod yX5_check, Cond.selects RX5 yX5_check yX5_check, Cond.code yX5_check cX5_check 5 (some .int), Cond.fieldLink RX5 112 "KinLedgerModel" "checks" "I", Cond.methodLink RX5 127 yX5_isRight, Cond.instanceMethod yX5_isRight, Cond.selects RX5 yX5_isRight yX5_isRight, Cond.code yX5_isRight cX5_isRight 8 (some .boolean), Cond.methodLink RX5 115 yX5_breaksCheck, Cond.instanceMethod yX5_breaksCheck, Cond.selects RX5 yX5_breaksCheck yX5_breaksCheck, Cond.code yX5_breaksCheck cX5_breaksCheck 4 (some .boolean), Cond.methodLink RX5 96 yX5_result, Cond.instanceMethod yX5_result, Cond.selects RX5 yX5_result yX5_result, Cond.code yX5_result cX5_result 5 (some .int), Cond.fieldLink RX5 89 "KinLedgerModel" "high" "I", Cond.methodLink RX5 92 yX5_reckon, Cond.static yX5_reckon]
def wsL_law0_r14 : List Cond := [Cond.code yX5_reckon cX5_reckon 3 (some .int), Cond.methodLink RL 99 yL_insert, Cond.static yL_insert, Cond.codeWith yL_insert cL_insert 7 (some .int) [(0, 11, 14, 13), (0, 11, 18, 15), (0, 11, 22, 21)], Cond.methodLink RL 33 yX4_insert, Cond.instanceMethod yX4_insert, Cond.selects RX4 yX4_insert yX4_insert, Cond.code yX4_insert cX4_insert 7 none, Cond.methodLink RX4 121 yX2_freePlace, Cond.instanceMethod yX2_freePlace, Cond.selects RX2 yX2_freePlace yX2_freePlace, Cond.code yX2_freePlace cX2_freePlace 2 (some .int), Cond.methodLink RX4 125 yX2_become, Cond.instanceMethod yX2_become, Cond.selects RX2 yX2_become yX2_become, Cond.code yX2_become cX2_become 2 none, Cond.methodLink RX2 24 arraycopyName, Cond.methodLink RX4 129 yX2_add, Cond.instanceMethod yX2_add, Cond.selects RX2 yX2_add yX2_add, Cond.code yX2_add cX2_add 3 none, Cond.methodLink RX4 132 yX2_put, Cond.instanceMethod yX2_put, Cond.selects RX2 yX2_put yX2_put]
def wsL_law0_r15 : List Cond := [Cond.code yX2_put cX2_put 4 none, Cond.methodLink RX4 136 yX4_settle, Cond.instanceMethod yX4_settle, Cond.selects RX4 yX4_settle yX4_settle, Cond.code yX4_settle cX4_settle 3 none, Cond.methodLink RX4 173 yX4_whyBroken, Cond.instanceMethod yX4_whyBroken, Cond.selects RX4 yX4_whyBroken yX4_whyBroken, Cond.code yX4_whyBroken cX4_whyBroken 3 (some .int), Cond.methodLink RX4 199 yX2_hasTwins, Cond.methodLink RL 102 yX5_insert, Cond.instanceMethod yX5_insert, Cond.selects RX5 yX5_insert yX5_insert, Cond.code yX5_insert cX5_insert 6 none, Cond.methodLink RX5 140 yX5_remember, Cond.instanceMethod yX5_remember, Cond.selects RX5 yX5_remember yX5_remember, Cond.code yX5_remember cX5_remember 2 none, Cond.fieldLink RX5 130 "KinLedgerModel" "oldRows" "I", Cond.methodLink RX5 143 yX5_settle, Cond.instanceMethod yX5_settle, Cond.selects RX5 yX5_settle yX5_settle, Cond.code yX5_settle cX5_settle 4 (some .int), Cond.methodLink RX5 133 yX5_wrong]
def wsL_law0_r16 : List Cond := [Cond.instanceMethod yX5_wrong, Cond.selects RX5 yX5_wrong yX5_wrong, Cond.code yX5_wrong cX5_wrong 2 (some .int), Cond.methodLink RX5 137 yX5_restore, Cond.instanceMethod yX5_restore, Cond.selects RX5 yX5_restore yX5_restore, Cond.code yX5_restore cX5_restore 2 none, Cond.methodLink RL 103 yL_delete, Cond.static yL_delete, Cond.codeWith yL_delete cL_delete 6 (some .int) [(0, 12, 15, 13), (0, 12, 19, 21)], Cond.methodLink RL 37 yX4_delete, Cond.instanceMethod yX4_delete, Cond.selects RX4 yX4_delete yX4_delete, Cond.code yX4_delete cX4_delete 6 (some .int), Cond.methodLink RX4 143 yX4_markGoing, Cond.instanceMethod yX4_markGoing, Cond.selects RX4 yX4_markGoing yX4_markGoing, Cond.code yX4_markGoing cX4_markGoing 5 none, Cond.methodLink RX4 166 yX2_holds, Cond.methodLink RX4 160 yX2_at, Cond.methodLink RX4 146 yX4_spreadGoing, Cond.instanceMethod yX4_spreadGoing, Cond.selects RX4 yX4_spreadGoing yX4_spreadGoing, Cond.code yX4_spreadGoing cX4_spreadGoing 4 (some .boolean)]
def wsL_law0_r17 : List Cond := [Cond.fieldLink RX4 202 "KinLedger$Link" "way" "I", Cond.methodLink RX4 205 yX4_losesTarget, Cond.instanceMethod yX4_losesTarget, Cond.selects RX4 yX4_losesTarget yX4_losesTarget, Cond.code yX4_losesTarget cX4_losesTarget 4 (some .boolean), Cond.methodLink RX4 186 yX1_target, Cond.methodLink RX4 150 yX4_removeGoing, Cond.instanceMethod yX4_removeGoing, Cond.selects RX4 yX4_removeGoing yX4_removeGoing, Cond.code yX4_removeGoing cX4_removeGoing 3 (some .int), Cond.methodLink RX4 209 yX2_remove, Cond.instanceMethod yX2_remove, Cond.selects RX2 yX2_remove yX2_remove, Cond.code yX2_remove cX2_remove 2 none, Cond.methodLink RX4 153 yX4_loosenFromGoing, Cond.instanceMethod yX4_loosenFromGoing, Cond.selects RX4 yX4_loosenFromGoing yX4_loosenFromGoing, Cond.code yX4_loosenFromGoing cX4_loosenFromGoing 4 (some .int), Cond.fieldLink RX4 212 "KinLedger$Link" "column" "I", Cond.methodLink RL 106 yX5_delete, Cond.instanceMethod yX5_delete, Cond.selects RX5 yX5_delete yX5_delete, Cond.code yX5_delete cX5_delete 8 (some .int), Cond.methodLink RX5 150 yX5_spread]
def wsL_law0_r18 : List Cond := [Cond.instanceMethod yX5_spread, Cond.selects RX5 yX5_spread yX5_spread, Cond.code yX5_spread cX5_spread 5 none, Cond.methodLink RX5 146 yX5_referred, Cond.instanceMethod yX5_referred, Cond.selects RX5 yX5_referred yX5_referred, Cond.code yX5_referred cX5_referred 5 (some .boolean), Cond.methodLink RX5 153 yX5_loosen, Cond.instanceMethod yX5_loosen, Cond.selects RX5 yX5_loosen yX5_loosen, Cond.code yX5_loosen cX5_loosen 6 (some .int), Cond.methodLink RL 107 yL_update, Cond.static yL_update, Cond.codeWith yL_update cL_update 7 (some .int) [(0, 14, 17, 13), (0, 14, 21, 15), (0, 14, 25, 21)], Cond.methodLink RL 41 yX4_update, Cond.instanceMethod yX4_update, Cond.selects RX4 yX4_update yX4_update, Cond.code yX4_update cX4_update 7 (some .int), Cond.methodLink RX4 156 yX2_find, Cond.methodLink RX4 163 yX4_passOnKey, Cond.instanceMethod yX4_passOnKey, Cond.selects RX4 yX4_passOnKey yX4_passOnKey, Cond.code yX4_passOnKey cX4_passOnKey 6 (some .int), Cond.methodLink RL 109 yX5_update]
def wsL_law0_r19 : List Cond := [Cond.instanceMethod yX5_update, Cond.selects RX5 yX5_update yX5_update, Cond.code yX5_update cX5_update 8 (some .int), Cond.methodLink RX5 156 yX5_rename, Cond.instanceMethod yX5_rename, Cond.selects RX5 yX5_rename yX5_rename, Cond.code yX5_rename cX5_rename 7 (some .int), Cond.methodLink RL 110 yL_shift, Cond.static yL_shift, Cond.codeWith yL_shift cL_shift 6 (some .int) [(0, 12, 15, 13), (0, 12, 19, 21)], Cond.methodLink RL 44 yX4_shift, Cond.instanceMethod yX4_shift, Cond.selects RX4 yX4_shift yX4_shift, Cond.code yX4_shift cX4_shift 5 (some .int), Cond.methodLink RX4 169 yX2_size, Cond.instanceMethod yX2_size, Cond.selects RX2 yX2_size yX2_size, Cond.code yX2_size cX2_size 4 (some .int), Cond.methodLink RL 112 yX5_shift, Cond.instanceMethod yX5_shift, Cond.selects RX5 yX5_shift yX5_shift, Cond.code yX5_shift cX5_shift 6 (some .int), Cond.methodLink RL 113 yL_keep, Cond.static yL_keep]
def wsL_law0_r20 : List Cond := [Cond.codeWith yL_keep cL_keep 3 (some .int) [(0, 8, 11, 15)], Cond.methodLink RL 47 yX4_keep, Cond.instanceMethod yX4_keep, Cond.selects RX4 yX4_keep yX4_keep, Cond.code yX4_keep cX4_keep 1 (some .int), Cond.methodLink RL 116 yX5_keep, Cond.instanceMethod yX5_keep, Cond.selects RX5 yX5_keep yX5_keep, Cond.code yX5_keep cX5_keep 2 (some .int), Cond.fieldLink RX5 159 "KinLedgerModel" "kept" "I", Cond.methodLink RL 117 yL_back, Cond.static yL_back, Cond.codeWith yL_back cL_back 3 (some .int) [(0, 8, 11, 15), (0, 8, 14, 21)], Cond.methodLink RL 51 yX4_back, Cond.instanceMethod yX4_back, Cond.selects RX4 yX4_back yX4_back, Cond.code yX4_back cX4_back 3 (some .int), Cond.methodLink RL 119 yX5_back, Cond.instanceMethod yX5_back, Cond.selects RX5 yX5_back yX5_back, Cond.code yX5_back cX5_back 3 (some .int), Cond.methodLink RL 120 yL_has, Cond.static yL_has, Cond.codeWith yL_has cL_has 5 (some .int) [(0, 17, 20, 13)]]
def wsL_law0_r21 : List Cond := [Cond.methodLink RL 54 yX4_has, Cond.instanceMethod yX4_has, Cond.selects RX4 yX4_has yX4_has, Cond.code yX4_has cX4_has 3 (some .boolean), Cond.methodLink RL 122 yX5_has, Cond.instanceMethod yX5_has, Cond.selects RX5 yX5_has yX5_has, Cond.code yX5_has cX5_has 3 (some .boolean), Cond.methodLink RL 123 yL_cell, Cond.static yL_cell, Cond.codeWith yL_cell cL_cell 6 (some .int) [(0, 12, 15, 13), (0, 12, 19, 15)], Cond.methodLink RL 58 yX4_cell, Cond.instanceMethod yX4_cell, Cond.selects RX4 yX4_cell yX4_cell, Cond.code yX4_cell cX4_cell 5 (some .int), Cond.methodLink RL 125 yX5_cell, Cond.instanceMethod yX5_cell, Cond.selects RX5 yX5_cell yX5_cell, Cond.code yX5_cell cX5_cell 5 (some .int), Cond.methodLink RL 126 yL_key, Cond.static yL_key, Cond.codeWith yL_key cL_key 5 (some .int) [(0, 10, 13, 13), (0, 10, 17, 64)], Cond.classLink RL 64 "java/lang/IndexOutOfBoundsException", Cond.methodLink RL 61 yX4_key]
def wsL_law0_r22 : List Cond := [Cond.instanceMethod yX4_key, Cond.selects RX4 yX4_key yX4_key, Cond.code yX4_key cX4_key 4 (some .int), Cond.classLink RX4 180 "java/lang/IndexOutOfBoundsException", Cond.initialized "java/lang/IndexOutOfBoundsException", Cond.methodLink RX4 177 yX2_placeOfRank, Cond.instanceMethod yX2_placeOfRank, Cond.selects RX2 yX2_placeOfRank yX2_placeOfRank, Cond.code yX2_placeOfRank cX2_placeOfRank 4 (some .int), Cond.methodLink RX2 34 yX2_lesserKeys, Cond.instanceMethod yX2_lesserKeys, Cond.selects RX2 yX2_lesserKeys yX2_lesserKeys, Cond.code yX2_lesserKeys cX2_lesserKeys 5 (some .int), Cond.methodLink RL 128 yX5_key, Cond.instanceMethod yX5_key, Cond.selects RX5 yX5_key yX5_key, Cond.code yX5_key cX5_key 6 (some .int), Cond.methodLink RL 129 yL_count, Cond.static yL_count, Cond.codeWith yL_count cL_count 4 (some .int) [(0, 9, 12, 13)], Cond.methodLink RL 66 yX4_count, Cond.instanceMethod yX4_count, Cond.selects RX4 yX4_count yX4_count, Cond.code yX4_count cX4_count 2 (some .int)]
def wsL_law0_r23 : List Cond := [Cond.methodLink RL 131 yX5_count, Cond.instanceMethod yX5_count, Cond.selects RX5 yX5_count yX5_count, Cond.code yX5_count cX5_count 4 (some .int), Cond.methodLink RL 132 yL_referring, Cond.static yL_referring, Cond.codeWith yL_referring cL_referring 5 (some .int) [(0, 10, 13, 13), (0, 10, 17, 15)], Cond.methodLink RL 69 yX4_referring, Cond.instanceMethod yX4_referring, Cond.selects RX4 yX4_referring yX4_referring, Cond.code yX4_referring cX4_referring 6 (some .int), Cond.fieldLink RX4 183 "KinLedger$Link" "parent" "I", Cond.methodLink RL 134 yX5_referring, Cond.instanceMethod yX5_referring, Cond.selects RX5 yX5_referring yX5_referring, Cond.code yX5_referring cX5_referring 5 (some .int), Cond.methodLink RL 135 yX4_reason, Cond.instanceMethod yX4_reason, Cond.selects RX4 yX4_reason yX4_reason, Cond.code yX4_reason cX4_reason 1 (some .int), Cond.methodLink RL 138 yX5_reason, Cond.instanceMethod yX5_reason, Cond.selects RX5 yX5_reason yX5_reason, Cond.code yX5_reason cX5_reason 1 (some .int)]
def wsL_law0 : List Cond := (wsL_law0_r1 ++ (wsL_law0_r2 ++ (wsL_law0_r3 ++ (wsL_law0_r4 ++ (wsL_law0_r5 ++ (wsL_law0_r6 ++ (wsL_law0_r7 ++ (wsL_law0_r8 ++ (wsL_law0_r9 ++ (wsL_law0_r10 ++ (wsL_law0_r11 ++ (wsL_law0_r12 ++ (wsL_law0_r13 ++ (wsL_law0_r14 ++ (wsL_law0_r15 ++ (wsL_law0_r16 ++ (wsL_law0_r17 ++ (wsL_law0_r18 ++ (wsL_law0_r19 ++ (wsL_law0_r20 ++ (wsL_law0_r21 ++ (wsL_law0_r22 ++ wsL_law0_r23)))))))))))))))))))))) ++ wsX40 ++ wsX50 ++ wsX20 ++ wsX10 ++ wsX30 ++ wsX00 ++ ([] : List Cond)
def wsL_law : List Cond := wsL_law0 ++ (vx_at0 RX4 192 "java/lang/IllegalArgumentException" ["java/lang/RuntimeException", "java/lang/Exception"]).filter goodWord ++ (vx_at0 RX4 195 "java/util/NoSuchElementException" ["java/lang/RuntimeException", "java/lang/Exception"]).filter goodWord ++ (vx_at0 RX4 198 "java/lang/IllegalStateException" ["java/lang/RuntimeException", "java/lang/Exception"]).filter goodWord ++ (vx_at0 RX4 182 "java/lang/IndexOutOfBoundsException" ["java/lang/RuntimeException", "java/lang/Exception"]).filter goodWord
theorem inJx145de : ∀ w ∈ wsJx145de0, w ∈ lw_tbl := by decide +kernel
theorem inJx8e188 : ∀ w ∈ wsJx8e1880, w ∈ lw_tbl := by decide +kernel
theorem inJ9 : ∀ w ∈ wsJ90, w ∈ lw_tbl := by decide +kernel
theorem inJ10 : ∀ w ∈ wsJ100, w ∈ lw_tbl := by decide +kernel
theorem inJ7 : ∀ w ∈ wsJ70, w ∈ lw_tbl := by decide +kernel
abbrev vwCl : List vw_C := [(RX0, TX0, 3), (RX1, TX1, 4), (RX2, TX2, 2), (RX3, TX3, 2), (RX4, TX4, 16), (RX5, TX5, 31)]
end
section
theorem dX0_init_0 : decode cX0_init 0 = .ok (.aload_n 0, 1) := by decide +kernel
theorem dX0_init_1 : decode cX0_init 1 = .ok (.invokespecial 3, 3) := by decide +kernel
theorem dX0_init_4 : decode cX0_init 4 = .ok (.aload_n 0, 1) := by decide +kernel
theorem dX0_init_5 : decode cX0_init 5 = .ok (.iload_n 1, 1) := by decide +kernel
theorem dX0_init_6 : decode cX0_init 6 = .ok (.putfield 9, 3) := by decide +kernel
theorem dX0_init_9 : decode cX0_init 9 = .ok (.aload_n 0, 1) := by decide +kernel
theorem dX0_init_10 : decode cX0_init 10 = .ok (.aload_n 2, 1) := by decide +kernel
theorem dX0_init_11 : decode cX0_init 11 = .ok (.putfield 15, 3) := by decide +kernel
theorem dX0_init_14 : decode cX0_init 14 = .ok (.aload_n 0, 1) := by decide +kernel
theorem dX0_init_15 : decode cX0_init 15 = .ok (.aload_n 2, 1) := by decide +kernel
theorem dX0_init_16 : decode cX0_init 16 = .ok (.arraylength, 1) := by decide +kernel
theorem dX0_init_17 : decode cX0_init 17 = .ok (.newarray .int, 2) := by decide +kernel
theorem dX0_init_19 : decode cX0_init 19 = .ok (.putfield 19, 3) := by decide +kernel
theorem dX0_init_22 : decode cX0_init 22 = .ok (.return_, 1) := by decide +kernel
theorem dX0_isWord_0 : decode cX0_isWord 0 = .ok (.iload_n 0, 1) := by decide +kernel
theorem dX0_isWord_1 : decode cX0_isWord 1 = .ok (.ifCond .lt 8, 3) := by decide +kernel
theorem dX0_isWord_4 : decode cX0_isWord 4 = .ok (.iload_n 0, 1) := by decide +kernel
theorem dX0_isWord_5 : decode cX0_isWord 5 = .ok (.iconst 3, 1) := by decide +kernel
theorem dX0_isWord_6 : decode cX0_isWord 6 = .ok (.if_icmp .le 28, 3) := by decide +kernel
theorem dX0_isWord_9 : decode cX0_isWord 9 = .ok (.iload_n 0, 1) := by decide +kernel
theorem dX0_isWord_10 : decode cX0_isWord 10 = .ok (.bipush 10, 2) := by decide +kernel
theorem dX0_isWord_12 : decode cX0_isWord 12 = .ok (.if_icmp .lt 9, 3) := by decide +kernel
theorem dX0_isWord_15 : decode cX0_isWord 15 = .ok (.iload_n 0, 1) := by decide +kernel
theorem dX0_isWord_16 : decode cX0_isWord 16 = .ok (.bipush 17, 2) := by decide +kernel
theorem dX0_isWord_18 : decode cX0_isWord 18 = .ok (.if_icmp .le 16, 3) := by decide +kernel
theorem dX0_isWord_21 : decode cX0_isWord 21 = .ok (.iload_n 0, 1) := by decide +kernel
theorem dX0_isWord_22 : decode cX0_isWord 22 = .ok (.bipush 100, 2) := by decide +kernel
theorem dX0_isWord_24 : decode cX0_isWord 24 = .ok (.if_icmp .lt 14, 3) := by decide +kernel
theorem dX0_isWord_27 : decode cX0_isWord 27 = .ok (.iload_n 0, 1) := by decide +kernel
theorem dX0_isWord_28 : decode cX0_isWord 28 = .ok (.sipush 300, 3) := by decide +kernel
theorem dX0_isWord_31 : decode cX0_isWord 31 = .ok (.if_icmp .gt 7, 3) := by decide +kernel
theorem dX0_isWord_34 : decode cX0_isWord 34 = .ok (.iconst 1, 1) := by decide +kernel
theorem dX0_isWord_35 : decode cX0_isWord 35 = .ok (.goto 4, 3) := by decide +kernel
theorem dX0_isWord_38 : decode cX0_isWord 38 = .ok (.iconst 0, 1) := by decide +kernel
theorem dX0_isWord_39 : decode cX0_isWord 39 = .ok (.ireturn, 1) := by decide +kernel
set_option maxRecDepth 20000 in
theorem ggX0_areRight_X0_taken : GoodIn wsX0_areRight wsX0_taken := goodIn_r _ [4] (by decide +kernel) (by decide +kernel)
set_option maxRecDepth 20000 in
theorem gX0_areRight_X0_taken : GoodIn wsX0_areRight (va_wsS RX0 22 yX0_taken wsX0_taken) := goodIn_app (goodIn_of _ (by decide +kernel)) ggX0_areRight_X0_taken
theorem dX0_areRight_0 : decode cX0_areRight 0 = .ok (.iconst 0, 1) := by decide +kernel
theorem dX0_areRight_1 : decode cX0_areRight 1 = .ok (.istore_n 2, 1) := by decide +kernel
theorem dX0_areRight_2 : decode cX0_areRight 2 = .ok (.iconst 0, 1) := by decide +kernel
theorem dX0_areRight_3 : decode cX0_areRight 3 = .ok (.istore_n 3, 1) := by decide +kernel
theorem dX0_areRight_4 : decode cX0_areRight 4 = .ok (.iload_n 3, 1) := by decide +kernel
theorem dX0_areRight_5 : decode cX0_areRight 5 = .ok (.aload_n 0, 1) := by decide +kernel
theorem dX0_areRight_6 : decode cX0_areRight 6 = .ok (.arraylength, 1) := by decide +kernel
theorem dX0_areRight_7 : decode cX0_areRight 7 = .ok (.if_icmp .ge 58, 3) := by decide +kernel
theorem dX0_areRight_10 : decode cX0_areRight 10 = .ok (.aload_n 0, 1) := by decide +kernel
theorem dX0_areRight_11 : decode cX0_areRight 11 = .ok (.iload_n 3, 1) := by decide +kernel
theorem dX0_areRight_12 : decode cX0_areRight 12 = .ok (.iaload, 1) := by decide +kernel
theorem dX0_areRight_13 : decode cX0_areRight 13 = .ok (.invokestatic 22, 3) := by decide +kernel
theorem dX0_areRight_16 : decode cX0_areRight 16 = .ok (.istore 4, 2) := by decide +kernel
theorem dX0_areRight_18 : decode cX0_areRight 18 = .ok (.aload_n 0, 1) := by decide +kernel
theorem dX0_areRight_19 : decode cX0_areRight 19 = .ok (.iload_n 3, 1) := by decide +kernel
theorem dX0_areRight_20 : decode cX0_areRight 20 = .ok (.iaload, 1) := by decide +kernel
theorem dX0_areRight_21 : decode cX0_areRight 21 = .ok (.iconst 3, 1) := by decide +kernel
theorem dX0_areRight_22 : decode cX0_areRight 22 = .ok (.if_icmp .gt 14, 3) := by decide +kernel
theorem dX0_areRight_25 : decode cX0_areRight 25 = .ok (.aload_n 0, 1) := by decide +kernel
theorem dX0_areRight_26 : decode cX0_areRight 26 = .ok (.iload_n 3, 1) := by decide +kernel
theorem dX0_areRight_27 : decode cX0_areRight 27 = .ok (.iaload, 1) := by decide +kernel
theorem dX0_areRight_28 : decode cX0_areRight 28 = .ok (.iload_n 1, 1) := by decide +kernel
theorem dX0_areRight_29 : decode cX0_areRight 29 = .ok (.if_icmp .lt 7, 3) := by decide +kernel
theorem dX0_areRight_32 : decode cX0_areRight 32 = .ok (.iconst 1, 1) := by decide +kernel
theorem dX0_areRight_33 : decode cX0_areRight 33 = .ok (.goto 4, 3) := by decide +kernel
theorem dX0_areRight_36 : decode cX0_areRight 36 = .ok (.iconst 0, 1) := by decide +kernel
theorem dX0_areRight_37 : decode cX0_areRight 37 = .ok (.istore 5, 2) := by decide +kernel
theorem dX0_areRight_39 : decode cX0_areRight 39 = .ok (.iload 5, 2) := by decide +kernel
theorem dX0_areRight_41 : decode cX0_areRight 41 = .ok (.ifCond .ne 9, 3) := by decide +kernel
theorem dX0_areRight_44 : decode cX0_areRight 44 = .ok (.iload_n 2, 1) := by decide +kernel
theorem dX0_areRight_45 : decode cX0_areRight 45 = .ok (.iload 4, 2) := by decide +kernel
theorem dX0_areRight_47 : decode cX0_areRight 47 = .ok (.if_icmp .ge 5, 3) := by decide +kernel
theorem dX0_areRight_50 : decode cX0_areRight 50 = .ok (.iconst 0, 1) := by decide +kernel
theorem dX0_areRight_51 : decode cX0_areRight 51 = .ok (.ireturn, 1) := by decide +kernel
theorem dX0_areRight_52 : decode cX0_areRight 52 = .ok (.iload_n 2, 1) := by decide +kernel
theorem dX0_areRight_53 : decode cX0_areRight 53 = .ok (.iconst 1, 1) := by decide +kernel
theorem dX0_areRight_54 : decode cX0_areRight 54 = .ok (.iload 4, 2) := by decide +kernel
theorem dX0_areRight_56 : decode cX0_areRight 56 = .ok (.isub, 1) := by decide +kernel
theorem dX0_areRight_57 : decode cX0_areRight 57 = .ok (.iadd, 1) := by decide +kernel
theorem dX0_areRight_58 : decode cX0_areRight 58 = .ok (.istore_n 2, 1) := by decide +kernel
theorem dX0_areRight_59 : decode cX0_areRight 59 = .ok (.iinc 3 1, 3) := by decide +kernel
theorem dX0_areRight_62 : decode cX0_areRight 62 = .ok (.goto (-58), 3) := by decide +kernel
theorem dX0_areRight_65 : decode cX0_areRight 65 = .ok (.iload_n 2, 1) := by decide +kernel
theorem dX0_areRight_66 : decode cX0_areRight 66 = .ok (.iconst 1, 1) := by decide +kernel
theorem dX0_areRight_67 : decode cX0_areRight 67 = .ok (.if_icmp .ne 7, 3) := by decide +kernel
theorem dX0_areRight_70 : decode cX0_areRight 70 = .ok (.iconst 1, 1) := by decide +kernel
theorem dX0_areRight_71 : decode cX0_areRight 71 = .ok (.goto 4, 3) := by decide +kernel
theorem dX0_areRight_74 : decode cX0_areRight 74 = .ok (.iconst 0, 1) := by decide +kernel
theorem dX0_areRight_75 : decode cX0_areRight 75 = .ok (.ireturn, 1) := by decide +kernel
theorem dX0_taken_0 : decode cX0_taken 0 = .ok (.iload_n 0, 1) := by decide +kernel
theorem dX0_taken_1 : decode cX0_taken 1 = .ok (.bipush 10, 2) := by decide +kernel
theorem dX0_taken_3 : decode cX0_taken 3 = .ok (.if_icmp .lt 9, 3) := by decide +kernel
theorem dX0_taken_6 : decode cX0_taken 6 = .ok (.iload_n 0, 1) := by decide +kernel
theorem dX0_taken_7 : decode cX0_taken 7 = .ok (.bipush 17, 2) := by decide +kernel
theorem dX0_taken_9 : decode cX0_taken 9 = .ok (.if_icmp .le 5, 3) := by decide +kernel
theorem dX0_taken_12 : decode cX0_taken 12 = .ok (.iconst 0, 1) := by decide +kernel
theorem dX0_taken_13 : decode cX0_taken 13 = .ok (.ireturn, 1) := by decide +kernel
theorem dX0_taken_14 : decode cX0_taken 14 = .ok (.iload_n 0, 1) := by decide +kernel
theorem dX0_taken_15 : decode cX0_taken 15 = .ok (.bipush 17, 2) := by decide +kernel
theorem dX0_taken_17 : decode cX0_taken 17 = .ok (.if_icmp .ne 7, 3) := by decide +kernel
theorem dX0_taken_20 : decode cX0_taken 20 = .ok (.iconst 1, 1) := by decide +kernel
theorem dX0_taken_21 : decode cX0_taken 21 = .ok (.goto 4, 3) := by decide +kernel
theorem dX0_taken_24 : decode cX0_taken 24 = .ok (.iconst 2, 1) := by decide +kernel
theorem dX0_taken_25 : decode cX0_taken 25 = .ok (.ireturn, 1) := by decide +kernel
set_option maxRecDepth 20000 in
theorem ggX0_isBroken_X2_holds : GoodIn wsX0_isBroken wsX2_holds := goodIn_r _ [6, 7, 33, 34] (by decide +kernel) (by decide +kernel)
set_option maxRecDepth 20000 in
theorem gX0_isBroken_X2_holds : GoodIn wsX0_isBroken (wsV RX0 26 RX2 yX2_holds wsX2_holds) := goodIn_app (goodIn_of _ (by decide +kernel)) ggX0_isBroken_X2_holds
set_option maxRecDepth 20000 in
theorem ggX0_isBroken_X0_result : GoodIn wsX0_isBroken wsX0_result := goodIn_r _ [12, 13, 14, 15, 16, 11, 17, 18, 19, 20, 21, 22, 23, 5, 24, 25, 26, 27, 28, 29, 30, 31, 32, 33, 34] (by decide +kernel) (by decide +kernel)
set_option maxRecDepth 20000 in
theorem gX0_isBroken_X0_result : GoodIn wsX0_isBroken (wsV RX0 32 RX0 yX0_result wsX0_result) := goodIn_app (goodIn_of _ (by decide +kernel)) ggX0_isBroken_X0_result
theorem dX0_isBroken_0 : decode cX0_isBroken 0 = .ok (.iconst 0, 1) := by decide +kernel
theorem dX0_isBroken_1 : decode cX0_isBroken 1 = .ok (.istore_n 2, 1) := by decide +kernel
theorem dX0_isBroken_2 : decode cX0_isBroken 2 = .ok (.iload_n 2, 1) := by decide +kernel
theorem dX0_isBroken_3 : decode cX0_isBroken 3 = .ok (.bipush 24, 2) := by decide +kernel
theorem dX0_isBroken_5 : decode cX0_isBroken 5 = .ok (.if_icmp .ge 32, 3) := by decide +kernel
theorem dX0_isBroken_8 : decode cX0_isBroken 8 = .ok (.aload_n 1, 1) := by decide +kernel
theorem dX0_isBroken_9 : decode cX0_isBroken 9 = .ok (.iload_n 2, 1) := by decide +kernel
theorem dX0_isBroken_10 : decode cX0_isBroken 10 = .ok (.aload_n 0, 1) := by decide +kernel
theorem dX0_isBroken_11 : decode cX0_isBroken 11 = .ok (.getfield 9, 3) := by decide +kernel
theorem dX0_isBroken_14 : decode cX0_isBroken 14 = .ok (.invokevirtual 26, 3) := by decide +kernel
theorem dX0_isBroken_17 : decode cX0_isBroken 17 = .ok (.ifCond .eq 14, 3) := by decide +kernel
theorem dX0_isBroken_20 : decode cX0_isBroken 20 = .ok (.aload_n 0, 1) := by decide +kernel
theorem dX0_isBroken_21 : decode cX0_isBroken 21 = .ok (.aload_n 1, 1) := by decide +kernel
theorem dX0_isBroken_22 : decode cX0_isBroken 22 = .ok (.iload_n 2, 1) := by decide +kernel
theorem dX0_isBroken_23 : decode cX0_isBroken 23 = .ok (.invokevirtual 32, 3) := by decide +kernel
theorem dX0_isBroken_26 : decode cX0_isBroken 26 = .ok (.ifCond .ne 5, 3) := by decide +kernel
theorem dX0_isBroken_29 : decode cX0_isBroken 29 = .ok (.iconst 1, 1) := by decide +kernel
theorem dX0_isBroken_30 : decode cX0_isBroken 30 = .ok (.ireturn, 1) := by decide +kernel
theorem dX0_isBroken_31 : decode cX0_isBroken 31 = .ok (.iinc 2 1, 3) := by decide +kernel
theorem dX0_isBroken_34 : decode cX0_isBroken 34 = .ok (.goto (-32), 3) := by decide +kernel
theorem dX0_isBroken_37 : decode cX0_isBroken 37 = .ok (.iconst 0, 1) := by decide +kernel
theorem dX0_isBroken_38 : decode cX0_isBroken 38 = .ok (.ireturn, 1) := by decide +kernel
set_option maxRecDepth 20000 in
theorem ggX0_result_X0_taken : GoodIn wsX0_result wsX0_taken := goodIn_r _ [6] (by decide +kernel) (by decide +kernel)
set_option maxRecDepth 20000 in
theorem gX0_result_X0_taken : GoodIn wsX0_result (va_wsS RX0 22 yX0_taken wsX0_taken) := goodIn_app (goodIn_of _ (by decide +kernel)) ggX0_result_X0_taken
set_option maxRecDepth 20000 in
theorem ggX0_result_X0_laid : GoodIn wsX0_result wsX0_laid := goodIn_r _ [9, 10, 11, 12, 13, 14, 15, 23, 24] (by decide +kernel) (by decide +kernel)
set_option maxRecDepth 20000 in
theorem gX0_result_X0_laid : GoodIn wsX0_result (va_wsS RX0 36 yX0_laid wsX0_laid) := goodIn_app (goodIn_of _ (by decide +kernel)) ggX0_result_X0_laid
set_option maxRecDepth 20000 in
theorem ggX0_result_X0_worked : GoodIn wsX0_result wsX0_worked := goodIn_r _ [19, 2, 20, 21, 22] (by decide +kernel) (by decide +kernel)
set_option maxRecDepth 20000 in
theorem gX0_result_X0_worked : GoodIn wsX0_result (wsV RX0 40 RX0 yX0_worked wsX0_worked) := goodIn_app (goodIn_of _ (by decide +kernel)) ggX0_result_X0_worked
theorem dX0_result_0 : decode cX0_result 0 = .ok (.iconst 0, 1) := by decide +kernel
theorem dX0_result_1 : decode cX0_result 1 = .ok (.istore_n 3, 1) := by decide +kernel
theorem dX0_result_2 : decode cX0_result 2 = .ok (.iconst 0, 1) := by decide +kernel
theorem dX0_result_3 : decode cX0_result 3 = .ok (.istore 4, 2) := by decide +kernel
theorem dX0_result_5 : decode cX0_result 5 = .ok (.iload 4, 2) := by decide +kernel
theorem dX0_result_7 : decode cX0_result 7 = .ok (.aload_n 0, 1) := by decide +kernel
theorem dX0_result_8 : decode cX0_result 8 = .ok (.getfield 15, 3) := by decide +kernel
theorem dX0_result_11 : decode cX0_result 11 = .ok (.arraylength, 1) := by decide +kernel
theorem dX0_result_12 : decode cX0_result 12 = .ok (.if_icmp .ge 67, 3) := by decide +kernel
theorem dX0_result_15 : decode cX0_result 15 = .ok (.aload_n 0, 1) := by decide +kernel
theorem dX0_result_16 : decode cX0_result 16 = .ok (.getfield 15, 3) := by decide +kernel
theorem dX0_result_19 : decode cX0_result 19 = .ok (.iload 4, 2) := by decide +kernel
theorem dX0_result_21 : decode cX0_result 21 = .ok (.iaload, 1) := by decide +kernel
theorem dX0_result_22 : decode cX0_result 22 = .ok (.invokestatic 22, 3) := by decide +kernel
theorem dX0_result_25 : decode cX0_result 25 = .ok (.istore 5, 2) := by decide +kernel
theorem dX0_result_27 : decode cX0_result 27 = .ok (.iload_n 3, 1) := by decide +kernel
theorem dX0_result_28 : decode cX0_result 28 = .ok (.iload 5, 2) := by decide +kernel
theorem dX0_result_30 : decode cX0_result 30 = .ok (.isub, 1) := by decide +kernel
theorem dX0_result_31 : decode cX0_result 31 = .ok (.istore_n 3, 1) := by decide +kernel
theorem dX0_result_32 : decode cX0_result 32 = .ok (.aload_n 0, 1) := by decide +kernel
theorem dX0_result_33 : decode cX0_result 33 = .ok (.getfield 19, 3) := by decide +kernel
theorem dX0_result_36 : decode cX0_result 36 = .ok (.iload_n 3, 1) := by decide +kernel
theorem dX0_result_37 : decode cX0_result 37 = .ok (.iload 5, 2) := by decide +kernel
theorem dX0_result_39 : decode cX0_result 39 = .ok (.ifCond .ne 18, 3) := by decide +kernel
theorem dX0_result_42 : decode cX0_result 42 = .ok (.aload_n 0, 1) := by decide +kernel
theorem dX0_result_43 : decode cX0_result 43 = .ok (.getfield 15, 3) := by decide +kernel
theorem dX0_result_46 : decode cX0_result 46 = .ok (.iload 4, 2) := by decide +kernel
theorem dX0_result_48 : decode cX0_result 48 = .ok (.iaload, 1) := by decide +kernel
theorem dX0_result_49 : decode cX0_result 49 = .ok (.aload_n 1, 1) := by decide +kernel
theorem dX0_result_50 : decode cX0_result 50 = .ok (.iload_n 2, 1) := by decide +kernel
theorem dX0_result_51 : decode cX0_result 51 = .ok (.invokestatic 36, 3) := by decide +kernel
theorem dX0_result_54 : decode cX0_result 54 = .ok (.goto 15, 3) := by decide +kernel
theorem dX0_result_57 : decode cX0_result 57 = .ok (.aload_n 0, 1) := by decide +kernel
theorem dX0_result_58 : decode cX0_result 58 = .ok (.aload_n 0, 1) := by decide +kernel
theorem dX0_result_59 : decode cX0_result 59 = .ok (.getfield 15, 3) := by decide +kernel
theorem dX0_result_62 : decode cX0_result 62 = .ok (.iload 4, 2) := by decide +kernel
theorem dX0_result_64 : decode cX0_result 64 = .ok (.iaload, 1) := by decide +kernel
theorem dX0_result_65 : decode cX0_result 65 = .ok (.iload_n 3, 1) := by decide +kernel
theorem dX0_result_66 : decode cX0_result 66 = .ok (.invokevirtual 40, 3) := by decide +kernel
theorem dX0_result_69 : decode cX0_result 69 = .ok (.iastore, 1) := by decide +kernel
theorem dX0_result_70 : decode cX0_result 70 = .ok (.iinc 3 1, 3) := by decide +kernel
theorem dX0_result_73 : decode cX0_result 73 = .ok (.iinc 4 1, 3) := by decide +kernel
theorem dX0_result_76 : decode cX0_result 76 = .ok (.goto (-71), 3) := by decide +kernel
theorem dX0_result_79 : decode cX0_result 79 = .ok (.aload_n 0, 1) := by decide +kernel
theorem dX0_result_80 : decode cX0_result 80 = .ok (.getfield 19, 3) := by decide +kernel
theorem dX0_result_83 : decode cX0_result 83 = .ok (.iconst 0, 1) := by decide +kernel
theorem dX0_result_84 : decode cX0_result 84 = .ok (.iaload, 1) := by decide +kernel
theorem dX0_result_85 : decode cX0_result 85 = .ok (.ireturn, 1) := by decide +kernel
set_option maxRecDepth 20000 in
theorem ggX0_laid_X2_at : GoodIn wsX0_laid wsX2_at := goodIn_r _ [5, 6, 7, 8] (by decide +kernel) (by decide +kernel)
set_option maxRecDepth 20000 in
theorem gX0_laid_X2_at : GoodIn wsX0_laid (wsV RX0 44 RX2 yX2_at wsX2_at) := goodIn_app (goodIn_of _ (by decide +kernel)) ggX0_laid_X2_at
theorem dX0_laid_0 : decode cX0_laid 0 = .ok (.iload_n 0, 1) := by decide +kernel
theorem dX0_laid_1 : decode cX0_laid 1 = .ok (.iconst 3, 1) := by decide +kernel
theorem dX0_laid_2 : decode cX0_laid 2 = .ok (.if_icmp .gt 12, 3) := by decide +kernel
theorem dX0_laid_5 : decode cX0_laid 5 = .ok (.aload_n 1, 1) := by decide +kernel
theorem dX0_laid_6 : decode cX0_laid 6 = .ok (.iload_n 2, 1) := by decide +kernel
theorem dX0_laid_7 : decode cX0_laid 7 = .ok (.iload_n 0, 1) := by decide +kernel
theorem dX0_laid_8 : decode cX0_laid 8 = .ok (.invokevirtual 44, 3) := by decide +kernel
theorem dX0_laid_11 : decode cX0_laid 11 = .ok (.goto 8, 3) := by decide +kernel
theorem dX0_laid_14 : decode cX0_laid 14 = .ok (.iload_n 0, 1) := by decide +kernel
theorem dX0_laid_15 : decode cX0_laid 15 = .ok (.sipush 200, 3) := by decide +kernel
theorem dX0_laid_18 : decode cX0_laid 18 = .ok (.isub, 1) := by decide +kernel
theorem dX0_laid_19 : decode cX0_laid 19 = .ok (.ireturn, 1) := by decide +kernel
theorem dX0_worked_0 : decode cX0_worked 0 = .ok (.aload_n 0, 1) := by decide +kernel
theorem dX0_worked_1 : decode cX0_worked 1 = .ok (.getfield 19, 3) := by decide +kernel
theorem dX0_worked_4 : decode cX0_worked 4 = .ok (.iload_n 2, 1) := by decide +kernel
theorem dX0_worked_5 : decode cX0_worked 5 = .ok (.iaload, 1) := by decide +kernel
theorem dX0_worked_6 : decode cX0_worked 6 = .ok (.istore_n 3, 1) := by decide +kernel
theorem dX0_worked_7 : decode cX0_worked 7 = .ok (.iload_n 1, 1) := by decide +kernel
theorem dX0_worked_8 : decode cX0_worked 8 = .ok (.bipush 17, 2) := by decide +kernel
theorem dX0_worked_10 : decode cX0_worked 10 = .ok (.if_icmp .ne 7, 3) := by decide +kernel
theorem dX0_worked_13 : decode cX0_worked 13 = .ok (.iconst 0, 1) := by decide +kernel
theorem dX0_worked_14 : decode cX0_worked 14 = .ok (.goto 11, 3) := by decide +kernel
theorem dX0_worked_17 : decode cX0_worked 17 = .ok (.aload_n 0, 1) := by decide +kernel
theorem dX0_worked_18 : decode cX0_worked 18 = .ok (.getfield 19, 3) := by decide +kernel
theorem dX0_worked_21 : decode cX0_worked 21 = .ok (.iload_n 2, 1) := by decide +kernel
theorem dX0_worked_22 : decode cX0_worked 22 = .ok (.iconst 1, 1) := by decide +kernel
theorem dX0_worked_23 : decode cX0_worked 23 = .ok (.iadd, 1) := by decide +kernel
theorem dX0_worked_24 : decode cX0_worked 24 = .ok (.iaload, 1) := by decide +kernel
theorem dX0_worked_25 : decode cX0_worked 25 = .ok (.istore 4, 2) := by decide +kernel
theorem dX0_worked_27 : decode cX0_worked 27 = .ok (.iload_n 1, 1) := by decide +kernel
theorem dX0_worked_28 : decode cX0_worked 28 = .ok (.tableswitch 113 10 16 #[44, 49, 54, 59, 71, 83, 98], 44) := by decide +kernel
theorem dX0_worked_72 : decode cX0_worked 72 = .ok (.iload_n 3, 1) := by decide +kernel
theorem dX0_worked_73 : decode cX0_worked 73 = .ok (.iload 4, 2) := by decide +kernel
theorem dX0_worked_75 : decode cX0_worked 75 = .ok (.iadd, 1) := by decide +kernel
theorem dX0_worked_76 : decode cX0_worked 76 = .ok (.ireturn, 1) := by decide +kernel
theorem dX0_worked_77 : decode cX0_worked 77 = .ok (.iload_n 3, 1) := by decide +kernel
theorem dX0_worked_78 : decode cX0_worked 78 = .ok (.iload 4, 2) := by decide +kernel
theorem dX0_worked_80 : decode cX0_worked 80 = .ok (.isub, 1) := by decide +kernel
theorem dX0_worked_81 : decode cX0_worked 81 = .ok (.ireturn, 1) := by decide +kernel
theorem dX0_worked_82 : decode cX0_worked 82 = .ok (.iload_n 3, 1) := by decide +kernel
theorem dX0_worked_83 : decode cX0_worked 83 = .ok (.iload 4, 2) := by decide +kernel
theorem dX0_worked_85 : decode cX0_worked 85 = .ok (.imul, 1) := by decide +kernel
theorem dX0_worked_86 : decode cX0_worked 86 = .ok (.ireturn, 1) := by decide +kernel
theorem dX0_worked_87 : decode cX0_worked 87 = .ok (.iload_n 3, 1) := by decide +kernel
theorem dX0_worked_88 : decode cX0_worked 88 = .ok (.iload 4, 2) := by decide +kernel
theorem dX0_worked_90 : decode cX0_worked 90 = .ok (.if_icmp .ge 7, 3) := by decide +kernel
theorem dX0_worked_93 : decode cX0_worked 93 = .ok (.iconst 1, 1) := by decide +kernel
theorem dX0_worked_94 : decode cX0_worked 94 = .ok (.goto 4, 3) := by decide +kernel
theorem dX0_worked_97 : decode cX0_worked 97 = .ok (.iconst 0, 1) := by decide +kernel
theorem dX0_worked_98 : decode cX0_worked 98 = .ok (.ireturn, 1) := by decide +kernel
theorem dX0_worked_99 : decode cX0_worked 99 = .ok (.iload_n 3, 1) := by decide +kernel
theorem dX0_worked_100 : decode cX0_worked 100 = .ok (.iload 4, 2) := by decide +kernel
theorem dX0_worked_102 : decode cX0_worked 102 = .ok (.if_icmp .ne 7, 3) := by decide +kernel
theorem dX0_worked_105 : decode cX0_worked 105 = .ok (.iconst 1, 1) := by decide +kernel
theorem dX0_worked_106 : decode cX0_worked 106 = .ok (.goto 4, 3) := by decide +kernel
theorem dX0_worked_109 : decode cX0_worked 109 = .ok (.iconst 0, 1) := by decide +kernel
theorem dX0_worked_110 : decode cX0_worked 110 = .ok (.ireturn, 1) := by decide +kernel
theorem dX0_worked_111 : decode cX0_worked 111 = .ok (.iload_n 3, 1) := by decide +kernel
theorem dX0_worked_112 : decode cX0_worked 112 = .ok (.ifCond .eq 12, 3) := by decide +kernel
theorem dX0_worked_115 : decode cX0_worked 115 = .ok (.iload 4, 2) := by decide +kernel
theorem dX0_worked_117 : decode cX0_worked 117 = .ok (.ifCond .eq 7, 3) := by decide +kernel
theorem dX0_worked_120 : decode cX0_worked 120 = .ok (.iconst 1, 1) := by decide +kernel
theorem dX0_worked_121 : decode cX0_worked 121 = .ok (.goto 4, 3) := by decide +kernel
theorem dX0_worked_124 : decode cX0_worked 124 = .ok (.iconst 0, 1) := by decide +kernel
theorem dX0_worked_125 : decode cX0_worked 125 = .ok (.ireturn, 1) := by decide +kernel
theorem dX0_worked_126 : decode cX0_worked 126 = .ok (.iload_n 3, 1) := by decide +kernel
theorem dX0_worked_127 : decode cX0_worked 127 = .ok (.ifCond .ne 8, 3) := by decide +kernel
theorem dX0_worked_130 : decode cX0_worked 130 = .ok (.iload 4, 2) := by decide +kernel
theorem dX0_worked_132 : decode cX0_worked 132 = .ok (.ifCond .eq 7, 3) := by decide +kernel
theorem dX0_worked_135 : decode cX0_worked 135 = .ok (.iconst 1, 1) := by decide +kernel
theorem dX0_worked_136 : decode cX0_worked 136 = .ok (.goto 4, 3) := by decide +kernel
theorem dX0_worked_139 : decode cX0_worked 139 = .ok (.iconst 0, 1) := by decide +kernel
theorem dX0_worked_140 : decode cX0_worked 140 = .ok (.ireturn, 1) := by decide +kernel
theorem dX0_worked_141 : decode cX0_worked 141 = .ok (.iload_n 3, 1) := by decide +kernel
theorem dX0_worked_142 : decode cX0_worked 142 = .ok (.ifCond .ne 7, 3) := by decide +kernel
theorem dX0_worked_145 : decode cX0_worked 145 = .ok (.iconst 1, 1) := by decide +kernel
theorem dX0_worked_146 : decode cX0_worked 146 = .ok (.goto 4, 3) := by decide +kernel
theorem dX0_worked_149 : decode cX0_worked 149 = .ok (.iconst 0, 1) := by decide +kernel
theorem dX0_worked_150 : decode cX0_worked 150 = .ok (.ireturn, 1) := by decide +kernel
theorem dX1_init_0 : decode cX1_init 0 = .ok (.aload_n 0, 1) := by decide +kernel
theorem dX1_init_1 : decode cX1_init 1 = .ok (.invokespecial 3, 3) := by decide +kernel
theorem dX1_init_4 : decode cX1_init 4 = .ok (.aload_n 0, 1) := by decide +kernel
theorem dX1_init_5 : decode cX1_init 5 = .ok (.iload_n 1, 1) := by decide +kernel
theorem dX1_init_6 : decode cX1_init 6 = .ok (.putfield 9, 3) := by decide +kernel
theorem dX1_init_9 : decode cX1_init 9 = .ok (.aload_n 0, 1) := by decide +kernel
theorem dX1_init_10 : decode cX1_init 10 = .ok (.iload_n 2, 1) := by decide +kernel
theorem dX1_init_11 : decode cX1_init 11 = .ok (.putfield 15, 3) := by decide +kernel
theorem dX1_init_14 : decode cX1_init 14 = .ok (.aload_n 0, 1) := by decide +kernel
theorem dX1_init_15 : decode cX1_init 15 = .ok (.iload_n 3, 1) := by decide +kernel
theorem dX1_init_16 : decode cX1_init 16 = .ok (.putfield 18, 3) := by decide +kernel
theorem dX1_init_19 : decode cX1_init 19 = .ok (.aload_n 0, 1) := by decide +kernel
theorem dX1_init_20 : decode cX1_init 20 = .ok (.iload 4, 2) := by decide +kernel
theorem dX1_init_22 : decode cX1_init 22 = .ok (.putfield 21, 3) := by decide +kernel
theorem dX1_init_25 : decode cX1_init 25 = .ok (.return_, 1) := by decide +kernel
set_option maxRecDepth 20000 in
theorem ggX1_target_X1_refers : GoodIn wsX1_target wsX1_refers := goodIn_r _ [7, 8, 2, 9, 10, 11, 12, 13, 14, 15, 16, 17, 18, 19, 25, 26, 27, 28, 29, 30] (by decide +kernel) (by decide +kernel)
set_option maxRecDepth 20000 in
theorem gX1_target_X1_refers : GoodIn wsX1_target (wsV RX1 24 RX1 yX1_refers wsX1_refers) := goodIn_app (goodIn_of _ (by decide +kernel)) ggX1_target_X1_refers
set_option maxRecDepth 20000 in
theorem ggX1_target_X2_at : GoodIn wsX1_target wsX2_at := goodIn_r _ [18, 19, 29, 30] (by decide +kernel) (by decide +kernel)
set_option maxRecDepth 20000 in
theorem gX1_target_X2_at : GoodIn wsX1_target (wsV RX1 28 RX2 yX2_at wsX2_at) := goodIn_app (goodIn_of _ (by decide +kernel)) ggX1_target_X2_at
set_option maxRecDepth 20000 in
theorem ggX1_target_X2_find : GoodIn wsX1_target wsX2_find := goodIn_r _ [23, 14, 24, 16, 17, 12, 18, 19, 29, 30] (by decide +kernel) (by decide +kernel)
set_option maxRecDepth 20000 in
theorem gX1_target_X2_find : GoodIn wsX1_target (wsV RX1 34 RX2 yX2_find wsX2_find) := goodIn_app (goodIn_of _ (by decide +kernel)) ggX1_target_X2_find
theorem dX1_target_0 : decode cX1_target 0 = .ok (.aload_n 0, 1) := by decide +kernel
theorem dX1_target_1 : decode cX1_target 1 = .ok (.aload_n 1, 1) := by decide +kernel
theorem dX1_target_2 : decode cX1_target 2 = .ok (.iload_n 2, 1) := by decide +kernel
theorem dX1_target_3 : decode cX1_target 3 = .ok (.invokevirtual 24, 3) := by decide +kernel
theorem dX1_target_6 : decode cX1_target 6 = .ok (.ifCond .eq 23, 3) := by decide +kernel
theorem dX1_target_9 : decode cX1_target 9 = .ok (.aload_n 1, 1) := by decide +kernel
theorem dX1_target_10 : decode cX1_target 10 = .ok (.aload_n 0, 1) := by decide +kernel
theorem dX1_target_11 : decode cX1_target 11 = .ok (.getfield 18, 3) := by decide +kernel
theorem dX1_target_14 : decode cX1_target 14 = .ok (.aload_n 1, 1) := by decide +kernel
theorem dX1_target_15 : decode cX1_target 15 = .ok (.iload_n 2, 1) := by decide +kernel
theorem dX1_target_16 : decode cX1_target 16 = .ok (.aload_n 0, 1) := by decide +kernel
theorem dX1_target_17 : decode cX1_target 17 = .ok (.getfield 15, 3) := by decide +kernel
theorem dX1_target_20 : decode cX1_target 20 = .ok (.invokevirtual 28, 3) := by decide +kernel
theorem dX1_target_23 : decode cX1_target 23 = .ok (.invokevirtual 34, 3) := by decide +kernel
theorem dX1_target_26 : decode cX1_target 26 = .ok (.goto 4, 3) := by decide +kernel
theorem dX1_target_29 : decode cX1_target 29 = .ok (.iconst (-1), 1) := by decide +kernel
theorem dX1_target_30 : decode cX1_target 30 = .ok (.ireturn, 1) := by decide +kernel
set_option maxRecDepth 20000 in
theorem ggX1_isBroken_X1_refers : GoodIn wsX1_isBroken wsX1_refers := goodIn_r _ [5, 6, 7, 8, 9, 10, 11, 12, 13, 14, 15, 16, 17, 18, 29, 30, 31, 32, 33, 34] (by decide +kernel) (by decide +kernel)
set_option maxRecDepth 20000 in
theorem gX1_isBroken_X1_refers : GoodIn wsX1_isBroken (wsV RX1 24 RX1 yX1_refers wsX1_refers) := goodIn_app (goodIn_of _ (by decide +kernel)) ggX1_isBroken_X1_refers
set_option maxRecDepth 20000 in
theorem ggX1_isBroken_X1_target : GoodIn wsX1_isBroken wsX1_target := goodIn_r _ [22, 23, 7, 1, 2, 3, 4, 5, 6, 8, 9, 10, 11, 12, 13, 14, 15, 16, 17, 18, 24, 25, 26, 27, 28, 29, 30, 31, 32, 33, 34] (by decide +kernel) (by decide +kernel)
set_option maxRecDepth 20000 in
theorem gX1_isBroken_X1_target : GoodIn wsX1_isBroken (wsV RX1 37 RX1 yX1_target wsX1_target) := goodIn_app (goodIn_of _ (by decide +kernel)) ggX1_isBroken_X1_target
theorem dX1_isBroken_0 : decode cX1_isBroken 0 = .ok (.iconst 0, 1) := by decide +kernel
theorem dX1_isBroken_1 : decode cX1_isBroken 1 = .ok (.istore_n 2, 1) := by decide +kernel
theorem dX1_isBroken_2 : decode cX1_isBroken 2 = .ok (.iload_n 2, 1) := by decide +kernel
theorem dX1_isBroken_3 : decode cX1_isBroken 3 = .ok (.bipush 24, 2) := by decide +kernel
theorem dX1_isBroken_5 : decode cX1_isBroken 5 = .ok (.if_icmp .ge 30, 3) := by decide +kernel
theorem dX1_isBroken_8 : decode cX1_isBroken 8 = .ok (.aload_n 0, 1) := by decide +kernel
theorem dX1_isBroken_9 : decode cX1_isBroken 9 = .ok (.aload_n 1, 1) := by decide +kernel
theorem dX1_isBroken_10 : decode cX1_isBroken 10 = .ok (.iload_n 2, 1) := by decide +kernel
theorem dX1_isBroken_11 : decode cX1_isBroken 11 = .ok (.invokevirtual 24, 3) := by decide +kernel
theorem dX1_isBroken_14 : decode cX1_isBroken 14 = .ok (.ifCond .eq 15, 3) := by decide +kernel
theorem dX1_isBroken_17 : decode cX1_isBroken 17 = .ok (.aload_n 0, 1) := by decide +kernel
theorem dX1_isBroken_18 : decode cX1_isBroken 18 = .ok (.aload_n 1, 1) := by decide +kernel
theorem dX1_isBroken_19 : decode cX1_isBroken 19 = .ok (.iload_n 2, 1) := by decide +kernel
theorem dX1_isBroken_20 : decode cX1_isBroken 20 = .ok (.invokevirtual 37, 3) := by decide +kernel
theorem dX1_isBroken_23 : decode cX1_isBroken 23 = .ok (.iconst (-1), 1) := by decide +kernel
theorem dX1_isBroken_24 : decode cX1_isBroken 24 = .ok (.if_icmp .ne 5, 3) := by decide +kernel
theorem dX1_isBroken_27 : decode cX1_isBroken 27 = .ok (.iconst 1, 1) := by decide +kernel
theorem dX1_isBroken_28 : decode cX1_isBroken 28 = .ok (.ireturn, 1) := by decide +kernel
theorem dX1_isBroken_29 : decode cX1_isBroken 29 = .ok (.iinc 2 1, 3) := by decide +kernel
theorem dX1_isBroken_32 : decode cX1_isBroken 32 = .ok (.goto (-30), 3) := by decide +kernel
theorem dX1_isBroken_35 : decode cX1_isBroken 35 = .ok (.iconst 0, 1) := by decide +kernel
theorem dX1_isBroken_36 : decode cX1_isBroken 36 = .ok (.ireturn, 1) := by decide +kernel
set_option maxRecDepth 20000 in
theorem ggX1_refers_X2_holds : GoodIn wsX1_refers wsX2_holds := goodIn_r _ [7, 8, 18, 19] (by decide +kernel) (by decide +kernel)
set_option maxRecDepth 20000 in
theorem gX1_refers_X2_holds : GoodIn wsX1_refers (wsV RX1 41 RX2 yX2_holds wsX2_holds) := goodIn_app (goodIn_of _ (by decide +kernel)) ggX1_refers_X2_holds
set_option maxRecDepth 20000 in
theorem ggX1_refers_X2_at : GoodIn wsX1_refers wsX2_at := goodIn_r _ [12, 13, 18, 19] (by decide +kernel) (by decide +kernel)
set_option maxRecDepth 20000 in
theorem gX1_refers_X2_at : GoodIn wsX1_refers (wsV RX1 28 RX2 yX2_at wsX2_at) := goodIn_app (goodIn_of _ (by decide +kernel)) ggX1_refers_X2_at
theorem dX1_refers_0 : decode cX1_refers 0 = .ok (.aload_n 1, 1) := by decide +kernel
theorem dX1_refers_1 : decode cX1_refers 1 = .ok (.iload_n 2, 1) := by decide +kernel
theorem dX1_refers_2 : decode cX1_refers 2 = .ok (.aload_n 0, 1) := by decide +kernel
theorem dX1_refers_3 : decode cX1_refers 3 = .ok (.getfield 9, 3) := by decide +kernel
theorem dX1_refers_6 : decode cX1_refers 6 = .ok (.invokevirtual 41, 3) := by decide +kernel
theorem dX1_refers_9 : decode cX1_refers 9 = .ok (.ifCond .eq 19, 3) := by decide +kernel
theorem dX1_refers_12 : decode cX1_refers 12 = .ok (.aload_n 1, 1) := by decide +kernel
theorem dX1_refers_13 : decode cX1_refers 13 = .ok (.iload_n 2, 1) := by decide +kernel
theorem dX1_refers_14 : decode cX1_refers 14 = .ok (.aload_n 0, 1) := by decide +kernel
theorem dX1_refers_15 : decode cX1_refers 15 = .ok (.getfield 15, 3) := by decide +kernel
theorem dX1_refers_18 : decode cX1_refers 18 = .ok (.invokevirtual 28, 3) := by decide +kernel
theorem dX1_refers_21 : decode cX1_refers 21 = .ok (.ifCond .eq 7, 3) := by decide +kernel
theorem dX1_refers_24 : decode cX1_refers 24 = .ok (.iconst 1, 1) := by decide +kernel
theorem dX1_refers_25 : decode cX1_refers 25 = .ok (.goto 4, 3) := by decide +kernel
theorem dX1_refers_28 : decode cX1_refers 28 = .ok (.iconst 0, 1) := by decide +kernel
theorem dX1_refers_29 : decode cX1_refers 29 = .ok (.ireturn, 1) := by decide +kernel
set_option maxRecDepth 20000 in
theorem ggX2_init_J7_fill_53178 : GoodIn wsX2_init wsJ7_fill_53178 := goodIn_r _ [10] (by decide +kernel) (by decide +kernel)
set_option maxRecDepth 20000 in
theorem gX2_init_J7_fill_53178 : GoodIn wsX2_init (va_wsS RX2 18 yJ7_fill_53178 wsJ7_fill_53178) := goodIn_app (goodIn_of _ (by decide +kernel)) ggX2_init_J7_fill_53178
theorem dX2_init_0 : decode cX2_init 0 = .ok (.aload_n 0, 1) := by decide +kernel
theorem dX2_init_1 : decode cX2_init 1 = .ok (.invokespecial 3, 3) := by decide +kernel
theorem dX2_init_4 : decode cX2_init 4 = .ok (.aload_n 0, 1) := by decide +kernel
theorem dX2_init_5 : decode cX2_init 5 = .ok (.bipush 24, 2) := by decide +kernel
theorem dX2_init_7 : decode cX2_init 7 = .ok (.newarray .int, 2) := by decide +kernel
theorem dX2_init_9 : decode cX2_init 9 = .ok (.putfield 9, 3) := by decide +kernel
theorem dX2_init_12 : decode cX2_init 12 = .ok (.aload_n 0, 1) := by decide +kernel
theorem dX2_init_13 : decode cX2_init 13 = .ok (.bipush 96, 2) := by decide +kernel
theorem dX2_init_15 : decode cX2_init 15 = .ok (.newarray .int, 2) := by decide +kernel
theorem dX2_init_17 : decode cX2_init 17 = .ok (.putfield 15, 3) := by decide +kernel
theorem dX2_init_20 : decode cX2_init 20 = .ok (.aload_n 0, 1) := by decide +kernel
theorem dX2_init_21 : decode cX2_init 21 = .ok (.getfield 9, 3) := by decide +kernel
theorem dX2_init_24 : decode cX2_init 24 = .ok (.iconst (-1), 1) := by decide +kernel
theorem dX2_init_25 : decode cX2_init 25 = .ok (.invokestatic 18, 3) := by decide +kernel
theorem dX2_init_28 : decode cX2_init 28 = .ok (.return_, 1) := by decide +kernel
theorem dX2_become_0 : decode cX2_become 0 = .ok (.aload_n 1, 1) := by decide +kernel
theorem dX2_become_1 : decode cX2_become 1 = .ok (.getfield 9, 3) := by decide +kernel
theorem dX2_become_4 : decode cX2_become 4 = .ok (.iconst 0, 1) := by decide +kernel
theorem dX2_become_5 : decode cX2_become 5 = .ok (.aload_n 0, 1) := by decide +kernel
theorem dX2_become_6 : decode cX2_become 6 = .ok (.getfield 9, 3) := by decide +kernel
theorem dX2_become_9 : decode cX2_become 9 = .ok (.iconst 0, 1) := by decide +kernel
theorem dX2_become_10 : decode cX2_become 10 = .ok (.bipush 24, 2) := by decide +kernel
theorem dX2_become_12 : decode cX2_become 12 = .ok (.invokestatic 24, 3) := by decide +kernel
theorem dX2_become_15 : decode cX2_become 15 = .ok (.aload_n 1, 1) := by decide +kernel
theorem dX2_become_16 : decode cX2_become 16 = .ok (.getfield 15, 3) := by decide +kernel
theorem dX2_become_19 : decode cX2_become 19 = .ok (.iconst 0, 1) := by decide +kernel
theorem dX2_become_20 : decode cX2_become 20 = .ok (.aload_n 0, 1) := by decide +kernel
theorem dX2_become_21 : decode cX2_become 21 = .ok (.getfield 15, 3) := by decide +kernel
theorem dX2_become_24 : decode cX2_become 24 = .ok (.iconst 0, 1) := by decide +kernel
theorem dX2_become_25 : decode cX2_become 25 = .ok (.bipush 96, 2) := by decide +kernel
theorem dX2_become_27 : decode cX2_become 27 = .ok (.invokestatic 24, 3) := by decide +kernel
theorem dX2_become_30 : decode cX2_become 30 = .ok (.return_, 1) := by decide +kernel
theorem dX2_holds_0 : decode cX2_holds 0 = .ok (.aload_n 0, 1) := by decide +kernel
theorem dX2_holds_1 : decode cX2_holds 1 = .ok (.getfield 9, 3) := by decide +kernel
theorem dX2_holds_4 : decode cX2_holds 4 = .ok (.iload_n 1, 1) := by decide +kernel
theorem dX2_holds_5 : decode cX2_holds 5 = .ok (.iaload, 1) := by decide +kernel
theorem dX2_holds_6 : decode cX2_holds 6 = .ok (.iload_n 2, 1) := by decide +kernel
theorem dX2_holds_7 : decode cX2_holds 7 = .ok (.if_icmp .ne 7, 3) := by decide +kernel
theorem dX2_holds_10 : decode cX2_holds 10 = .ok (.iconst 1, 1) := by decide +kernel
theorem dX2_holds_11 : decode cX2_holds 11 = .ok (.goto 4, 3) := by decide +kernel
theorem dX2_holds_14 : decode cX2_holds 14 = .ok (.iconst 0, 1) := by decide +kernel
theorem dX2_holds_15 : decode cX2_holds 15 = .ok (.ireturn, 1) := by decide +kernel
theorem dX2_at_0 : decode cX2_at 0 = .ok (.aload_n 0, 1) := by decide +kernel
theorem dX2_at_1 : decode cX2_at 1 = .ok (.getfield 15, 3) := by decide +kernel
theorem dX2_at_4 : decode cX2_at 4 = .ok (.iload_n 1, 1) := by decide +kernel
theorem dX2_at_5 : decode cX2_at 5 = .ok (.iconst 4, 1) := by decide +kernel
theorem dX2_at_6 : decode cX2_at 6 = .ok (.imul, 1) := by decide +kernel
theorem dX2_at_7 : decode cX2_at 7 = .ok (.iload_n 2, 1) := by decide +kernel
theorem dX2_at_8 : decode cX2_at 8 = .ok (.iadd, 1) := by decide +kernel
theorem dX2_at_9 : decode cX2_at 9 = .ok (.iaload, 1) := by decide +kernel
theorem dX2_at_10 : decode cX2_at 10 = .ok (.ireturn, 1) := by decide +kernel
theorem dX2_put_0 : decode cX2_put 0 = .ok (.aload_n 0, 1) := by decide +kernel
theorem dX2_put_1 : decode cX2_put 1 = .ok (.getfield 15, 3) := by decide +kernel
theorem dX2_put_4 : decode cX2_put 4 = .ok (.iload_n 1, 1) := by decide +kernel
theorem dX2_put_5 : decode cX2_put 5 = .ok (.iconst 4, 1) := by decide +kernel
theorem dX2_put_6 : decode cX2_put 6 = .ok (.imul, 1) := by decide +kernel
theorem dX2_put_7 : decode cX2_put 7 = .ok (.iload_n 2, 1) := by decide +kernel
theorem dX2_put_8 : decode cX2_put 8 = .ok (.iadd, 1) := by decide +kernel
theorem dX2_put_9 : decode cX2_put 9 = .ok (.iload_n 3, 1) := by decide +kernel
theorem dX2_put_10 : decode cX2_put 10 = .ok (.iastore, 1) := by decide +kernel
theorem dX2_put_11 : decode cX2_put 11 = .ok (.return_, 1) := by decide +kernel
theorem dX2_add_0 : decode cX2_add 0 = .ok (.aload_n 0, 1) := by decide +kernel
theorem dX2_add_1 : decode cX2_add 1 = .ok (.getfield 9, 3) := by decide +kernel
theorem dX2_add_4 : decode cX2_add 4 = .ok (.iload_n 1, 1) := by decide +kernel
theorem dX2_add_5 : decode cX2_add 5 = .ok (.iload_n 2, 1) := by decide +kernel
theorem dX2_add_6 : decode cX2_add 6 = .ok (.iastore, 1) := by decide +kernel
theorem dX2_add_7 : decode cX2_add 7 = .ok (.return_, 1) := by decide +kernel
theorem dX2_remove_0 : decode cX2_remove 0 = .ok (.aload_n 0, 1) := by decide +kernel
theorem dX2_remove_1 : decode cX2_remove 1 = .ok (.getfield 9, 3) := by decide +kernel
theorem dX2_remove_4 : decode cX2_remove 4 = .ok (.iload_n 1, 1) := by decide +kernel
theorem dX2_remove_5 : decode cX2_remove 5 = .ok (.iconst (-1), 1) := by decide +kernel
theorem dX2_remove_6 : decode cX2_remove 6 = .ok (.iastore, 1) := by decide +kernel
theorem dX2_remove_7 : decode cX2_remove 7 = .ok (.return_, 1) := by decide +kernel
theorem dX2_freePlace_0 : decode cX2_freePlace 0 = .ok (.iconst 0, 1) := by decide +kernel
theorem dX2_freePlace_1 : decode cX2_freePlace 1 = .ok (.istore_n 1, 1) := by decide +kernel
theorem dX2_freePlace_2 : decode cX2_freePlace 2 = .ok (.iload_n 1, 1) := by decide +kernel
theorem dX2_freePlace_3 : decode cX2_freePlace 3 = .ok (.bipush 24, 2) := by decide +kernel
theorem dX2_freePlace_5 : decode cX2_freePlace 5 = .ok (.if_icmp .ge 21, 3) := by decide +kernel
theorem dX2_freePlace_8 : decode cX2_freePlace 8 = .ok (.aload_n 0, 1) := by decide +kernel
theorem dX2_freePlace_9 : decode cX2_freePlace 9 = .ok (.getfield 9, 3) := by decide +kernel
theorem dX2_freePlace_12 : decode cX2_freePlace 12 = .ok (.iload_n 1, 1) := by decide +kernel
theorem dX2_freePlace_13 : decode cX2_freePlace 13 = .ok (.iaload, 1) := by decide +kernel
theorem dX2_freePlace_14 : decode cX2_freePlace 14 = .ok (.iconst (-1), 1) := by decide +kernel
theorem dX2_freePlace_15 : decode cX2_freePlace 15 = .ok (.if_icmp .ne 5, 3) := by decide +kernel
theorem dX2_freePlace_18 : decode cX2_freePlace 18 = .ok (.iload_n 1, 1) := by decide +kernel
theorem dX2_freePlace_19 : decode cX2_freePlace 19 = .ok (.ireturn, 1) := by decide +kernel
theorem dX2_freePlace_20 : decode cX2_freePlace 20 = .ok (.iinc 1 1, 3) := by decide +kernel
theorem dX2_freePlace_23 : decode cX2_freePlace 23 = .ok (.goto (-21), 3) := by decide +kernel
theorem dX2_freePlace_26 : decode cX2_freePlace 26 = .ok (.iconst (-1), 1) := by decide +kernel
theorem dX2_freePlace_27 : decode cX2_freePlace 27 = .ok (.ireturn, 1) := by decide +kernel
theorem dX2_size_0 : decode cX2_size 0 = .ok (.iconst 0, 1) := by decide +kernel
theorem dX2_size_1 : decode cX2_size 1 = .ok (.istore_n 2, 1) := by decide +kernel
theorem dX2_size_2 : decode cX2_size 2 = .ok (.iconst 0, 1) := by decide +kernel
theorem dX2_size_3 : decode cX2_size 3 = .ok (.istore_n 3, 1) := by decide +kernel
theorem dX2_size_4 : decode cX2_size 4 = .ok (.iload_n 3, 1) := by decide +kernel
theorem dX2_size_5 : decode cX2_size 5 = .ok (.bipush 24, 2) := by decide +kernel
theorem dX2_size_7 : decode cX2_size 7 = .ok (.if_icmp .ge 22, 3) := by decide +kernel
theorem dX2_size_10 : decode cX2_size 10 = .ok (.aload_n 0, 1) := by decide +kernel
theorem dX2_size_11 : decode cX2_size 11 = .ok (.getfield 9, 3) := by decide +kernel
theorem dX2_size_14 : decode cX2_size 14 = .ok (.iload_n 3, 1) := by decide +kernel
theorem dX2_size_15 : decode cX2_size 15 = .ok (.iaload, 1) := by decide +kernel
theorem dX2_size_16 : decode cX2_size 16 = .ok (.iload_n 1, 1) := by decide +kernel
theorem dX2_size_17 : decode cX2_size 17 = .ok (.if_icmp .ne 6, 3) := by decide +kernel
theorem dX2_size_20 : decode cX2_size 20 = .ok (.iinc 2 1, 3) := by decide +kernel
theorem dX2_size_23 : decode cX2_size 23 = .ok (.iinc 3 1, 3) := by decide +kernel
theorem dX2_size_26 : decode cX2_size 26 = .ok (.goto (-22), 3) := by decide +kernel
theorem dX2_size_29 : decode cX2_size 29 = .ok (.iload_n 2, 1) := by decide +kernel
theorem dX2_size_30 : decode cX2_size 30 = .ok (.ireturn, 1) := by decide +kernel
set_option maxRecDepth 20000 in
theorem ggX2_find_X2_at : GoodIn wsX2_find wsX2_at := goodIn_r _ [6, 7, 8, 9] (by decide +kernel) (by decide +kernel)
set_option maxRecDepth 20000 in
theorem gX2_find_X2_at : GoodIn wsX2_find (wsV RX2 30 RX2 yX2_at wsX2_at) := goodIn_app (goodIn_of _ (by decide +kernel)) ggX2_find_X2_at
theorem dX2_find_0 : decode cX2_find 0 = .ok (.iconst 0, 1) := by decide +kernel
theorem dX2_find_1 : decode cX2_find 1 = .ok (.istore_n 3, 1) := by decide +kernel
theorem dX2_find_2 : decode cX2_find 2 = .ok (.iload_n 3, 1) := by decide +kernel
theorem dX2_find_3 : decode cX2_find 3 = .ok (.bipush 24, 2) := by decide +kernel
theorem dX2_find_5 : decode cX2_find 5 = .ok (.if_icmp .ge 31, 3) := by decide +kernel
theorem dX2_find_8 : decode cX2_find 8 = .ok (.aload_n 0, 1) := by decide +kernel
theorem dX2_find_9 : decode cX2_find 9 = .ok (.getfield 9, 3) := by decide +kernel
theorem dX2_find_12 : decode cX2_find 12 = .ok (.iload_n 3, 1) := by decide +kernel
theorem dX2_find_13 : decode cX2_find 13 = .ok (.iaload, 1) := by decide +kernel
theorem dX2_find_14 : decode cX2_find 14 = .ok (.iload_n 1, 1) := by decide +kernel
theorem dX2_find_15 : decode cX2_find 15 = .ok (.if_icmp .ne 15, 3) := by decide +kernel
theorem dX2_find_18 : decode cX2_find 18 = .ok (.aload_n 0, 1) := by decide +kernel
theorem dX2_find_19 : decode cX2_find 19 = .ok (.iload_n 3, 1) := by decide +kernel
theorem dX2_find_20 : decode cX2_find 20 = .ok (.iconst 0, 1) := by decide +kernel
theorem dX2_find_21 : decode cX2_find 21 = .ok (.invokevirtual 30, 3) := by decide +kernel
theorem dX2_find_24 : decode cX2_find 24 = .ok (.iload_n 2, 1) := by decide +kernel
theorem dX2_find_25 : decode cX2_find 25 = .ok (.if_icmp .ne 5, 3) := by decide +kernel
theorem dX2_find_28 : decode cX2_find 28 = .ok (.iload_n 3, 1) := by decide +kernel
theorem dX2_find_29 : decode cX2_find 29 = .ok (.ireturn, 1) := by decide +kernel
theorem dX2_find_30 : decode cX2_find 30 = .ok (.iinc 3 1, 3) := by decide +kernel
theorem dX2_find_33 : decode cX2_find 33 = .ok (.goto (-31), 3) := by decide +kernel
theorem dX2_find_36 : decode cX2_find 36 = .ok (.iconst (-1), 1) := by decide +kernel
theorem dX2_find_37 : decode cX2_find 37 = .ok (.ireturn, 1) := by decide +kernel
set_option maxRecDepth 20000 in
theorem ggX2_placeOfRank_X2_at : GoodIn wsX2_placeOfRank wsX2_at := goodIn_r _ [6, 7, 12, 13] (by decide +kernel) (by decide +kernel)
set_option maxRecDepth 20000 in
theorem gX2_placeOfRank_X2_at : GoodIn wsX2_placeOfRank (wsV RX2 30 RX2 yX2_at wsX2_at) := goodIn_app (goodIn_of _ (by decide +kernel)) ggX2_placeOfRank_X2_at
set_option maxRecDepth 20000 in
theorem ggX2_placeOfRank_X2_lesserKeys : GoodIn wsX2_placeOfRank wsX2_lesserKeys := goodIn_r _ [11, 1, 2, 3, 4, 5, 6, 7, 12, 13] (by decide +kernel) (by decide +kernel)
set_option maxRecDepth 20000 in
theorem gX2_placeOfRank_X2_lesserKeys : GoodIn wsX2_placeOfRank (wsV RX2 34 RX2 yX2_lesserKeys wsX2_lesserKeys) := goodIn_app (goodIn_of _ (by decide +kernel)) ggX2_placeOfRank_X2_lesserKeys
theorem dX2_placeOfRank_0 : decode cX2_placeOfRank 0 = .ok (.iconst 0, 1) := by decide +kernel
theorem dX2_placeOfRank_1 : decode cX2_placeOfRank 1 = .ok (.istore_n 3, 1) := by decide +kernel
theorem dX2_placeOfRank_2 : decode cX2_placeOfRank 2 = .ok (.iload_n 3, 1) := by decide +kernel
theorem dX2_placeOfRank_3 : decode cX2_placeOfRank 3 = .ok (.bipush 24, 2) := by decide +kernel
theorem dX2_placeOfRank_5 : decode cX2_placeOfRank 5 = .ok (.if_icmp .ge 36, 3) := by decide +kernel
theorem dX2_placeOfRank_8 : decode cX2_placeOfRank 8 = .ok (.aload_n 0, 1) := by decide +kernel
theorem dX2_placeOfRank_9 : decode cX2_placeOfRank 9 = .ok (.getfield 9, 3) := by decide +kernel
theorem dX2_placeOfRank_12 : decode cX2_placeOfRank 12 = .ok (.iload_n 3, 1) := by decide +kernel
theorem dX2_placeOfRank_13 : decode cX2_placeOfRank 13 = .ok (.iaload, 1) := by decide +kernel
theorem dX2_placeOfRank_14 : decode cX2_placeOfRank 14 = .ok (.iload_n 1, 1) := by decide +kernel
theorem dX2_placeOfRank_15 : decode cX2_placeOfRank 15 = .ok (.if_icmp .ne 20, 3) := by decide +kernel
theorem dX2_placeOfRank_18 : decode cX2_placeOfRank 18 = .ok (.aload_n 0, 1) := by decide +kernel
theorem dX2_placeOfRank_19 : decode cX2_placeOfRank 19 = .ok (.iload_n 1, 1) := by decide +kernel
theorem dX2_placeOfRank_20 : decode cX2_placeOfRank 20 = .ok (.aload_n 0, 1) := by decide +kernel
theorem dX2_placeOfRank_21 : decode cX2_placeOfRank 21 = .ok (.iload_n 3, 1) := by decide +kernel
theorem dX2_placeOfRank_22 : decode cX2_placeOfRank 22 = .ok (.iconst 0, 1) := by decide +kernel
theorem dX2_placeOfRank_23 : decode cX2_placeOfRank 23 = .ok (.invokevirtual 30, 3) := by decide +kernel
theorem dX2_placeOfRank_26 : decode cX2_placeOfRank 26 = .ok (.invokevirtual 34, 3) := by decide +kernel
theorem dX2_placeOfRank_29 : decode cX2_placeOfRank 29 = .ok (.iload_n 2, 1) := by decide +kernel
theorem dX2_placeOfRank_30 : decode cX2_placeOfRank 30 = .ok (.if_icmp .ne 5, 3) := by decide +kernel
theorem dX2_placeOfRank_33 : decode cX2_placeOfRank 33 = .ok (.iload_n 3, 1) := by decide +kernel
theorem dX2_placeOfRank_34 : decode cX2_placeOfRank 34 = .ok (.ireturn, 1) := by decide +kernel
theorem dX2_placeOfRank_35 : decode cX2_placeOfRank 35 = .ok (.iinc 3 1, 3) := by decide +kernel
theorem dX2_placeOfRank_38 : decode cX2_placeOfRank 38 = .ok (.goto (-36), 3) := by decide +kernel
theorem dX2_placeOfRank_41 : decode cX2_placeOfRank 41 = .ok (.iconst (-1), 1) := by decide +kernel
theorem dX2_placeOfRank_42 : decode cX2_placeOfRank 42 = .ok (.ireturn, 1) := by decide +kernel
set_option maxRecDepth 20000 in
theorem ggX2_lesserKeys_X2_at : GoodIn wsX2_lesserKeys wsX2_at := goodIn_r _ [6, 7, 8, 9] (by decide +kernel) (by decide +kernel)
set_option maxRecDepth 20000 in
theorem gX2_lesserKeys_X2_at : GoodIn wsX2_lesserKeys (wsV RX2 30 RX2 yX2_at wsX2_at) := goodIn_app (goodIn_of _ (by decide +kernel)) ggX2_lesserKeys_X2_at
theorem dX2_lesserKeys_0 : decode cX2_lesserKeys 0 = .ok (.iconst 0, 1) := by decide +kernel
theorem dX2_lesserKeys_1 : decode cX2_lesserKeys 1 = .ok (.istore_n 3, 1) := by decide +kernel
theorem dX2_lesserKeys_2 : decode cX2_lesserKeys 2 = .ok (.iconst 0, 1) := by decide +kernel
theorem dX2_lesserKeys_3 : decode cX2_lesserKeys 3 = .ok (.istore 4, 2) := by decide +kernel
theorem dX2_lesserKeys_5 : decode cX2_lesserKeys 5 = .ok (.iload 4, 2) := by decide +kernel
theorem dX2_lesserKeys_7 : decode cX2_lesserKeys 7 = .ok (.bipush 24, 2) := by decide +kernel
theorem dX2_lesserKeys_9 : decode cX2_lesserKeys 9 = .ok (.if_icmp .ge 34, 3) := by decide +kernel
theorem dX2_lesserKeys_12 : decode cX2_lesserKeys 12 = .ok (.aload_n 0, 1) := by decide +kernel
theorem dX2_lesserKeys_13 : decode cX2_lesserKeys 13 = .ok (.getfield 9, 3) := by decide +kernel
theorem dX2_lesserKeys_16 : decode cX2_lesserKeys 16 = .ok (.iload 4, 2) := by decide +kernel
theorem dX2_lesserKeys_18 : decode cX2_lesserKeys 18 = .ok (.iaload, 1) := by decide +kernel
theorem dX2_lesserKeys_19 : decode cX2_lesserKeys 19 = .ok (.iload_n 1, 1) := by decide +kernel
theorem dX2_lesserKeys_20 : decode cX2_lesserKeys 20 = .ok (.if_icmp .ne 17, 3) := by decide +kernel
theorem dX2_lesserKeys_23 : decode cX2_lesserKeys 23 = .ok (.aload_n 0, 1) := by decide +kernel
theorem dX2_lesserKeys_24 : decode cX2_lesserKeys 24 = .ok (.iload 4, 2) := by decide +kernel
theorem dX2_lesserKeys_26 : decode cX2_lesserKeys 26 = .ok (.iconst 0, 1) := by decide +kernel
theorem dX2_lesserKeys_27 : decode cX2_lesserKeys 27 = .ok (.invokevirtual 30, 3) := by decide +kernel
theorem dX2_lesserKeys_30 : decode cX2_lesserKeys 30 = .ok (.iload_n 2, 1) := by decide +kernel
theorem dX2_lesserKeys_31 : decode cX2_lesserKeys 31 = .ok (.if_icmp .ge 6, 3) := by decide +kernel
theorem dX2_lesserKeys_34 : decode cX2_lesserKeys 34 = .ok (.iinc 3 1, 3) := by decide +kernel
theorem dX2_lesserKeys_37 : decode cX2_lesserKeys 37 = .ok (.iinc 4 1, 3) := by decide +kernel
theorem dX2_lesserKeys_40 : decode cX2_lesserKeys 40 = .ok (.goto (-35), 3) := by decide +kernel
theorem dX2_lesserKeys_43 : decode cX2_lesserKeys 43 = .ok (.iload_n 3, 1) := by decide +kernel
theorem dX2_lesserKeys_44 : decode cX2_lesserKeys 44 = .ok (.ireturn, 1) := by decide +kernel
set_option maxRecDepth 20000 in
theorem ggX2_hasTwins_X2_at : GoodIn wsX2_hasTwins wsX2_at := goodIn_r _ [6, 7, 12, 13] (by decide +kernel) (by decide +kernel)
set_option maxRecDepth 20000 in
theorem gX2_hasTwins_X2_at : GoodIn wsX2_hasTwins (wsV RX2 30 RX2 yX2_at wsX2_at) := goodIn_app (goodIn_of _ (by decide +kernel)) ggX2_hasTwins_X2_at
set_option maxRecDepth 20000 in
theorem ggX2_hasTwins_X2_hasTwinBefore : GoodIn wsX2_hasTwins wsX2_hasTwinBefore := goodIn_r _ [11, 1, 2, 3, 4, 5, 6, 7, 12, 13] (by decide +kernel) (by decide +kernel)
set_option maxRecDepth 20000 in
theorem gX2_hasTwins_X2_hasTwinBefore : GoodIn wsX2_hasTwins (wsV RX2 37 RX2 yX2_hasTwinBefore wsX2_hasTwinBefore) := goodIn_app (goodIn_of _ (by decide +kernel)) ggX2_hasTwins_X2_hasTwinBefore
theorem dX2_hasTwins_0 : decode cX2_hasTwins 0 = .ok (.iconst 1, 1) := by decide +kernel
theorem dX2_hasTwins_1 : decode cX2_hasTwins 1 = .ok (.istore_n 3, 1) := by decide +kernel
theorem dX2_hasTwins_2 : decode cX2_hasTwins 2 = .ok (.iload_n 3, 1) := by decide +kernel
theorem dX2_hasTwins_3 : decode cX2_hasTwins 3 = .ok (.bipush 24, 2) := by decide +kernel
theorem dX2_hasTwins_5 : decode cX2_hasTwins 5 = .ok (.if_icmp .ge 39, 3) := by decide +kernel
theorem dX2_hasTwins_8 : decode cX2_hasTwins 8 = .ok (.aload_n 0, 1) := by decide +kernel
theorem dX2_hasTwins_9 : decode cX2_hasTwins 9 = .ok (.getfield 9, 3) := by decide +kernel
theorem dX2_hasTwins_12 : decode cX2_hasTwins 12 = .ok (.iload_n 3, 1) := by decide +kernel
theorem dX2_hasTwins_13 : decode cX2_hasTwins 13 = .ok (.iaload, 1) := by decide +kernel
theorem dX2_hasTwins_14 : decode cX2_hasTwins 14 = .ok (.iload_n 1, 1) := by decide +kernel
theorem dX2_hasTwins_15 : decode cX2_hasTwins 15 = .ok (.if_icmp .ne 23, 3) := by decide +kernel
theorem dX2_hasTwins_18 : decode cX2_hasTwins 18 = .ok (.aload_n 0, 1) := by decide +kernel
theorem dX2_hasTwins_19 : decode cX2_hasTwins 19 = .ok (.iload_n 3, 1) := by decide +kernel
theorem dX2_hasTwins_20 : decode cX2_hasTwins 20 = .ok (.iload_n 2, 1) := by decide +kernel
theorem dX2_hasTwins_21 : decode cX2_hasTwins 21 = .ok (.invokevirtual 30, 3) := by decide +kernel
theorem dX2_hasTwins_24 : decode cX2_hasTwins 24 = .ok (.ifCond .eq 14, 3) := by decide +kernel
theorem dX2_hasTwins_27 : decode cX2_hasTwins 27 = .ok (.aload_n 0, 1) := by decide +kernel
theorem dX2_hasTwins_28 : decode cX2_hasTwins 28 = .ok (.iload_n 3, 1) := by decide +kernel
theorem dX2_hasTwins_29 : decode cX2_hasTwins 29 = .ok (.iload_n 2, 1) := by decide +kernel
theorem dX2_hasTwins_30 : decode cX2_hasTwins 30 = .ok (.invokevirtual 37, 3) := by decide +kernel
theorem dX2_hasTwins_33 : decode cX2_hasTwins 33 = .ok (.ifCond .eq 5, 3) := by decide +kernel
theorem dX2_hasTwins_36 : decode cX2_hasTwins 36 = .ok (.iconst 1, 1) := by decide +kernel
theorem dX2_hasTwins_37 : decode cX2_hasTwins 37 = .ok (.ireturn, 1) := by decide +kernel
theorem dX2_hasTwins_38 : decode cX2_hasTwins 38 = .ok (.iinc 3 1, 3) := by decide +kernel
theorem dX2_hasTwins_41 : decode cX2_hasTwins 41 = .ok (.goto (-39), 3) := by decide +kernel
theorem dX2_hasTwins_44 : decode cX2_hasTwins 44 = .ok (.iconst 0, 1) := by decide +kernel
theorem dX2_hasTwins_45 : decode cX2_hasTwins 45 = .ok (.ireturn, 1) := by decide +kernel
set_option maxRecDepth 20000 in
theorem ggX2_hasTwinBefore_X2_at : GoodIn wsX2_hasTwinBefore wsX2_at := goodIn_r _ [6, 7, 8, 9] (by decide +kernel) (by decide +kernel)
set_option maxRecDepth 20000 in
theorem gX2_hasTwinBefore_X2_at : GoodIn wsX2_hasTwinBefore (wsV RX2 30 RX2 yX2_at wsX2_at) := goodIn_app (goodIn_of _ (by decide +kernel)) ggX2_hasTwinBefore_X2_at
theorem dX2_hasTwinBefore_0 : decode cX2_hasTwinBefore 0 = .ok (.iconst 0, 1) := by decide +kernel
theorem dX2_hasTwinBefore_1 : decode cX2_hasTwinBefore 1 = .ok (.istore_n 3, 1) := by decide +kernel
theorem dX2_hasTwinBefore_2 : decode cX2_hasTwinBefore 2 = .ok (.iload_n 3, 1) := by decide +kernel
theorem dX2_hasTwinBefore_3 : decode cX2_hasTwinBefore 3 = .ok (.iload_n 1, 1) := by decide +kernel
theorem dX2_hasTwinBefore_4 : decode cX2_hasTwinBefore 4 = .ok (.if_icmp .ge 41, 3) := by decide +kernel
theorem dX2_hasTwinBefore_7 : decode cX2_hasTwinBefore 7 = .ok (.aload_n 0, 1) := by decide +kernel
theorem dX2_hasTwinBefore_8 : decode cX2_hasTwinBefore 8 = .ok (.getfield 9, 3) := by decide +kernel
theorem dX2_hasTwinBefore_11 : decode cX2_hasTwinBefore 11 = .ok (.iload_n 3, 1) := by decide +kernel
theorem dX2_hasTwinBefore_12 : decode cX2_hasTwinBefore 12 = .ok (.iaload, 1) := by decide +kernel
theorem dX2_hasTwinBefore_13 : decode cX2_hasTwinBefore 13 = .ok (.aload_n 0, 1) := by decide +kernel
theorem dX2_hasTwinBefore_14 : decode cX2_hasTwinBefore 14 = .ok (.getfield 9, 3) := by decide +kernel
theorem dX2_hasTwinBefore_17 : decode cX2_hasTwinBefore 17 = .ok (.iload_n 1, 1) := by decide +kernel
theorem dX2_hasTwinBefore_18 : decode cX2_hasTwinBefore 18 = .ok (.iaload, 1) := by decide +kernel
theorem dX2_hasTwinBefore_19 : decode cX2_hasTwinBefore 19 = .ok (.if_icmp .ne 20, 3) := by decide +kernel
theorem dX2_hasTwinBefore_22 : decode cX2_hasTwinBefore 22 = .ok (.aload_n 0, 1) := by decide +kernel
theorem dX2_hasTwinBefore_23 : decode cX2_hasTwinBefore 23 = .ok (.iload_n 3, 1) := by decide +kernel
theorem dX2_hasTwinBefore_24 : decode cX2_hasTwinBefore 24 = .ok (.iload_n 2, 1) := by decide +kernel
theorem dX2_hasTwinBefore_25 : decode cX2_hasTwinBefore 25 = .ok (.invokevirtual 30, 3) := by decide +kernel
theorem dX2_hasTwinBefore_28 : decode cX2_hasTwinBefore 28 = .ok (.aload_n 0, 1) := by decide +kernel
theorem dX2_hasTwinBefore_29 : decode cX2_hasTwinBefore 29 = .ok (.iload_n 1, 1) := by decide +kernel
theorem dX2_hasTwinBefore_30 : decode cX2_hasTwinBefore 30 = .ok (.iload_n 2, 1) := by decide +kernel
theorem dX2_hasTwinBefore_31 : decode cX2_hasTwinBefore 31 = .ok (.invokevirtual 30, 3) := by decide +kernel
theorem dX2_hasTwinBefore_34 : decode cX2_hasTwinBefore 34 = .ok (.if_icmp .ne 5, 3) := by decide +kernel
theorem dX2_hasTwinBefore_37 : decode cX2_hasTwinBefore 37 = .ok (.iconst 1, 1) := by decide +kernel
theorem dX2_hasTwinBefore_38 : decode cX2_hasTwinBefore 38 = .ok (.ireturn, 1) := by decide +kernel
theorem dX2_hasTwinBefore_39 : decode cX2_hasTwinBefore 39 = .ok (.iinc 3 1, 3) := by decide +kernel
theorem dX2_hasTwinBefore_42 : decode cX2_hasTwinBefore 42 = .ok (.goto (-40), 3) := by decide +kernel
theorem dX2_hasTwinBefore_45 : decode cX2_hasTwinBefore 45 = .ok (.iconst 0, 1) := by decide +kernel
theorem dX2_hasTwinBefore_46 : decode cX2_hasTwinBefore 46 = .ok (.ireturn, 1) := by decide +kernel
theorem dX3_init_0 : decode cX3_init 0 = .ok (.aload_n 0, 1) := by decide +kernel
theorem dX3_init_1 : decode cX3_init 1 = .ok (.invokespecial 1, 3) := by decide +kernel
theorem dX3_init_4 : decode cX3_init 4 = .ok (.aload_n 0, 1) := by decide +kernel
theorem dX3_init_5 : decode cX3_init 5 = .ok (.iload_n 1, 1) := by decide +kernel
theorem dX3_init_6 : decode cX3_init 6 = .ok (.putfield 7, 3) := by decide +kernel
theorem dX3_init_9 : decode cX3_init 9 = .ok (.aload_n 0, 1) := by decide +kernel
theorem dX3_init_10 : decode cX3_init 10 = .ok (.iload_n 2, 1) := by decide +kernel
theorem dX3_init_11 : decode cX3_init 11 = .ok (.putfield 13, 3) := by decide +kernel
theorem dX3_init_14 : decode cX3_init 14 = .ok (.return_, 1) := by decide +kernel
set_option maxRecDepth 20000 in
theorem ggX3_isBroken_X2_hasTwins : GoodIn wsX3_isBroken wsX2_hasTwins := goodIn_r _ [7, 8, 9, 10, 11, 6, 12, 13, 14, 15, 16, 17, 20, 21] (by decide +kernel) (by decide +kernel)
set_option maxRecDepth 20000 in
theorem gX3_isBroken_X2_hasTwins : GoodIn wsX3_isBroken (wsV RX3 16 RX2 yX2_hasTwins wsX2_hasTwins) := goodIn_app (goodIn_of _ (by decide +kernel)) ggX3_isBroken_X2_hasTwins
theorem dX3_isBroken_0 : decode cX3_isBroken 0 = .ok (.aload_n 1, 1) := by decide +kernel
theorem dX3_isBroken_1 : decode cX3_isBroken 1 = .ok (.aload_n 0, 1) := by decide +kernel
theorem dX3_isBroken_2 : decode cX3_isBroken 2 = .ok (.getfield 7, 3) := by decide +kernel
theorem dX3_isBroken_5 : decode cX3_isBroken 5 = .ok (.aload_n 0, 1) := by decide +kernel
theorem dX3_isBroken_6 : decode cX3_isBroken 6 = .ok (.getfield 13, 3) := by decide +kernel
theorem dX3_isBroken_9 : decode cX3_isBroken 9 = .ok (.invokevirtual 16, 3) := by decide +kernel
theorem dX3_isBroken_12 : decode cX3_isBroken 12 = .ok (.ireturn, 1) := by decide +kernel
set_option maxRecDepth 20000 in
theorem ggX4_init_X2_init : GoodIn wsX4_init wsX2_init := goodIn_r _ [30, 31, 2, 3, 4, 32, 33, 34, 35, 36, 37, 54, 55] (by decide +kernel) (by decide +kernel)
set_option maxRecDepth 20000 in
theorem gX4_init_X2_init : GoodIn wsX4_init (wsX2_init) := ggX4_init_X2_init
end
section
theorem dX4_init_0 : decode cX4_init 0 = .ok (.aload_n 0, 1) := by decide +kernel
theorem dX4_init_1 : decode cX4_init 1 = .ok (.invokespecial 1, 3) := by decide +kernel
theorem dX4_init_4 : decode cX4_init 4 = .ok (.aload_n 0, 1) := by decide +kernel
theorem dX4_init_5 : decode cX4_init 5 = .ok (.iconst 4, 1) := by decide +kernel
theorem dX4_init_6 : decode cX4_init 6 = .ok (.newarray .int, 2) := by decide +kernel
theorem dX4_init_8 : decode cX4_init 8 = .ok (.putfield 9, 3) := by decide +kernel
theorem dX4_init_11 : decode cX4_init 11 = .ok (.aload_n 0, 1) := by decide +kernel
theorem dX4_init_12 : decode cX4_init 12 = .ok (.iconst 0, 1) := by decide +kernel
theorem dX4_init_13 : decode cX4_init 13 = .ok (.putfield 13, 3) := by decide +kernel
theorem dX4_init_16 : decode cX4_init 16 = .ok (.aload_n 0, 1) := by decide +kernel
theorem dX4_init_17 : decode cX4_init 17 = .ok (.bipush 6, 2) := by decide +kernel
theorem dX4_init_19 : decode cX4_init 19 = .ok (.anewarray 17, 3) := by decide +kernel
theorem dX4_init_22 : decode cX4_init 22 = .ok (.putfield 19, 3) := by decide +kernel
theorem dX4_init_25 : decode cX4_init 25 = .ok (.aload_n 0, 1) := by decide +kernel
theorem dX4_init_26 : decode cX4_init 26 = .ok (.iconst 0, 1) := by decide +kernel
theorem dX4_init_27 : decode cX4_init 27 = .ok (.putfield 23, 3) := by decide +kernel
theorem dX4_init_30 : decode cX4_init 30 = .ok (.aload_n 0, 1) := by decide +kernel
theorem dX4_init_31 : decode cX4_init 31 = .ok (.iconst 4, 1) := by decide +kernel
theorem dX4_init_32 : decode cX4_init 32 = .ok (.anewarray 26, 3) := by decide +kernel
theorem dX4_init_35 : decode cX4_init 35 = .ok (.putfield 28, 3) := by decide +kernel
theorem dX4_init_38 : decode cX4_init 38 = .ok (.aload_n 0, 1) := by decide +kernel
theorem dX4_init_39 : decode cX4_init 39 = .ok (.iconst 0, 1) := by decide +kernel
theorem dX4_init_40 : decode cX4_init 40 = .ok (.putfield 32, 3) := by decide +kernel
theorem dX4_init_43 : decode cX4_init 43 = .ok (.aload_n 0, 1) := by decide +kernel
theorem dX4_init_44 : decode cX4_init 44 = .ok (.iconst 4, 1) := by decide +kernel
theorem dX4_init_45 : decode cX4_init 45 = .ok (.anewarray 35, 3) := by decide +kernel
theorem dX4_init_48 : decode cX4_init 48 = .ok (.putfield 37, 3) := by decide +kernel
theorem dX4_init_51 : decode cX4_init 51 = .ok (.aload_n 0, 1) := by decide +kernel
theorem dX4_init_52 : decode cX4_init 52 = .ok (.iconst 0, 1) := by decide +kernel
theorem dX4_init_53 : decode cX4_init 53 = .ok (.putfield 41, 3) := by decide +kernel
theorem dX4_init_56 : decode cX4_init 56 = .ok (.aload_n 0, 1) := by decide +kernel
theorem dX4_init_57 : decode cX4_init 57 = .ok (.bipush 10, 2) := by decide +kernel
theorem dX4_init_59 : decode cX4_init 59 = .ok (.newarray .int, 2) := by decide +kernel
theorem dX4_init_61 : decode cX4_init 61 = .ok (.putfield 44, 3) := by decide +kernel
theorem dX4_init_64 : decode cX4_init 64 = .ok (.aload_n 0, 1) := by decide +kernel
theorem dX4_init_65 : decode cX4_init 65 = .ok (.iconst 0, 1) := by decide +kernel
theorem dX4_init_66 : decode cX4_init 66 = .ok (.putfield 47, 3) := by decide +kernel
theorem dX4_init_69 : decode cX4_init 69 = .ok (.aload_n 0, 1) := by decide +kernel
theorem dX4_init_70 : decode cX4_init 70 = .ok (.new 50, 3) := by decide +kernel
theorem dX4_init_73 : decode cX4_init 73 = .ok (.dup, 1) := by decide +kernel
theorem dX4_init_74 : decode cX4_init 74 = .ok (.invokespecial 52, 3) := by decide +kernel
theorem dX4_init_77 : decode cX4_init 77 = .ok (.putfield 53, 3) := by decide +kernel
theorem dX4_init_80 : decode cX4_init 80 = .ok (.aload_n 0, 1) := by decide +kernel
theorem dX4_init_81 : decode cX4_init 81 = .ok (.new 50, 3) := by decide +kernel
theorem dX4_init_84 : decode cX4_init 84 = .ok (.dup, 1) := by decide +kernel
theorem dX4_init_85 : decode cX4_init 85 = .ok (.invokespecial 52, 3) := by decide +kernel
theorem dX4_init_88 : decode cX4_init 88 = .ok (.putfield 57, 3) := by decide +kernel
theorem dX4_init_91 : decode cX4_init 91 = .ok (.aload_n 0, 1) := by decide +kernel
theorem dX4_init_92 : decode cX4_init 92 = .ok (.iconst 4, 1) := by decide +kernel
theorem dX4_init_93 : decode cX4_init 93 = .ok (.anewarray 50, 3) := by decide +kernel
theorem dX4_init_96 : decode cX4_init 96 = .ok (.putfield 60, 3) := by decide +kernel
theorem dX4_init_99 : decode cX4_init 99 = .ok (.aload_n 0, 1) := by decide +kernel
theorem dX4_init_100 : decode cX4_init 100 = .ok (.iconst 0, 1) := by decide +kernel
theorem dX4_init_101 : decode cX4_init 101 = .ok (.putfield 64, 3) := by decide +kernel
theorem dX4_init_104 : decode cX4_init 104 = .ok (.aload_n 0, 1) := by decide +kernel
theorem dX4_init_105 : decode cX4_init 105 = .ok (.bipush 24, 2) := by decide +kernel
theorem dX4_init_107 : decode cX4_init 107 = .ok (.newarray .boolean, 2) := by decide +kernel
theorem dX4_init_109 : decode cX4_init 109 = .ok (.putfield 67, 3) := by decide +kernel
theorem dX4_init_112 : decode cX4_init 112 = .ok (.aload_n 0, 1) := by decide +kernel
theorem dX4_init_113 : decode cX4_init 113 = .ok (.iconst 0, 1) := by decide +kernel
theorem dX4_init_114 : decode cX4_init 114 = .ok (.putfield 71, 3) := by decide +kernel
theorem dX4_init_117 : decode cX4_init 117 = .ok (.iconst 0, 1) := by decide +kernel
theorem dX4_init_118 : decode cX4_init 118 = .ok (.istore_n 1, 1) := by decide +kernel
theorem dX4_init_119 : decode cX4_init 119 = .ok (.iload_n 1, 1) := by decide +kernel
theorem dX4_init_120 : decode cX4_init 120 = .ok (.iconst 4, 1) := by decide +kernel
theorem dX4_init_121 : decode cX4_init 121 = .ok (.if_icmp .ge 22, 3) := by decide +kernel
theorem dX4_init_124 : decode cX4_init 124 = .ok (.aload_n 0, 1) := by decide +kernel
theorem dX4_init_125 : decode cX4_init 125 = .ok (.getfield 60, 3) := by decide +kernel
theorem dX4_init_128 : decode cX4_init 128 = .ok (.iload_n 1, 1) := by decide +kernel
theorem dX4_init_129 : decode cX4_init 129 = .ok (.new 50, 3) := by decide +kernel
theorem dX4_init_132 : decode cX4_init 132 = .ok (.dup, 1) := by decide +kernel
theorem dX4_init_133 : decode cX4_init 133 = .ok (.invokespecial 52, 3) := by decide +kernel
theorem dX4_init_136 : decode cX4_init 136 = .ok (.aastore, 1) := by decide +kernel
theorem dX4_init_137 : decode cX4_init 137 = .ok (.iinc 1 1, 3) := by decide +kernel
theorem dX4_init_140 : decode cX4_init 140 = .ok (.goto (-21), 3) := by decide +kernel
theorem dX4_init_143 : decode cX4_init 143 = .ok (.return_, 1) := by decide +kernel
set_option maxRecDepth 20000 in
theorem ggX4_table_X4_needArgument : GoodIn wsX4_table wsX4_needArgument := goodIn_ca (goodIn_r _ [6, 7, 8] (by decide +kernel) (by decide +kernel)) (goodIn_sub (fun _ h => List.mem_cons_of_mem _ (List.mem_append_left _ (List.mem_append_right _ h))) (by decide +kernel))
set_option maxRecDepth 20000 in
theorem gX4_table_X4_needArgument : GoodIn wsX4_table (va_wsS RX4 74 yX4_needArgument wsX4_needArgument) := goodIn_app (goodIn_of _ (by decide +kernel)) ggX4_table_X4_needArgument
set_option maxRecDepth 20000 in
theorem ggX4_table_X4_needElement : GoodIn wsX4_table wsX4_needElement := goodIn_ca (goodIn_r _ [11, 12, 13] (by decide +kernel) (by decide +kernel)) (goodIn_sub (fun _ h => List.mem_cons_of_mem _ (List.mem_append_right _ h)) (by decide +kernel))
set_option maxRecDepth 20000 in
theorem gX4_table_X4_needElement : GoodIn wsX4_table (va_wsS RX4 78 yX4_needElement wsX4_needElement) := goodIn_app (goodIn_of _ (by decide +kernel)) ggX4_table_X4_needElement
theorem dX4_table_0 : decode cX4_table 0 = .ok (.iload_n 1, 1) := by decide +kernel
theorem dX4_table_1 : decode cX4_table 1 = .ok (.iconst 2, 1) := by decide +kernel
theorem dX4_table_2 : decode cX4_table 2 = .ok (.if_icmp .lt 12, 3) := by decide +kernel
theorem dX4_table_5 : decode cX4_table 5 = .ok (.iload_n 1, 1) := by decide +kernel
theorem dX4_table_6 : decode cX4_table 6 = .ok (.iconst 4, 1) := by decide +kernel
theorem dX4_table_7 : decode cX4_table 7 = .ok (.if_icmp .gt 7, 3) := by decide +kernel
theorem dX4_table_10 : decode cX4_table 10 = .ok (.iconst 1, 1) := by decide +kernel
theorem dX4_table_11 : decode cX4_table 11 = .ok (.goto 4, 3) := by decide +kernel
theorem dX4_table_14 : decode cX4_table 14 = .ok (.iconst 0, 1) := by decide +kernel
theorem dX4_table_15 : decode cX4_table 15 = .ok (.invokestatic 74, 3) := by decide +kernel
theorem dX4_table_18 : decode cX4_table 18 = .ok (.aload_n 0, 1) := by decide +kernel
theorem dX4_table_19 : decode cX4_table 19 = .ok (.getfield 13, 3) := by decide +kernel
theorem dX4_table_22 : decode cX4_table 22 = .ok (.iconst 4, 1) := by decide +kernel
theorem dX4_table_23 : decode cX4_table 23 = .ok (.if_icmp .ge 7, 3) := by decide +kernel
theorem dX4_table_26 : decode cX4_table 26 = .ok (.iconst 1, 1) := by decide +kernel
theorem dX4_table_27 : decode cX4_table 27 = .ok (.goto 4, 3) := by decide +kernel
theorem dX4_table_30 : decode cX4_table 30 = .ok (.iconst 0, 1) := by decide +kernel
theorem dX4_table_31 : decode cX4_table 31 = .ok (.invokestatic 78, 3) := by decide +kernel
theorem dX4_table_34 : decode cX4_table 34 = .ok (.aload_n 0, 1) := by decide +kernel
theorem dX4_table_35 : decode cX4_table 35 = .ok (.getfield 9, 3) := by decide +kernel
theorem dX4_table_38 : decode cX4_table 38 = .ok (.aload_n 0, 1) := by decide +kernel
theorem dX4_table_39 : decode cX4_table 39 = .ok (.getfield 13, 3) := by decide +kernel
theorem dX4_table_42 : decode cX4_table 42 = .ok (.iload_n 1, 1) := by decide +kernel
theorem dX4_table_43 : decode cX4_table 43 = .ok (.iastore, 1) := by decide +kernel
theorem dX4_table_44 : decode cX4_table 44 = .ok (.aload_n 0, 1) := by decide +kernel
theorem dX4_table_45 : decode cX4_table 45 = .ok (.dup, 1) := by decide +kernel
theorem dX4_table_46 : decode cX4_table 46 = .ok (.getfield 13, 3) := by decide +kernel
theorem dX4_table_49 : decode cX4_table 49 = .ok (.iconst 1, 1) := by decide +kernel
theorem dX4_table_50 : decode cX4_table 50 = .ok (.iadd, 1) := by decide +kernel
theorem dX4_table_51 : decode cX4_table 51 = .ok (.putfield 13, 3) := by decide +kernel
theorem dX4_table_54 : decode cX4_table 54 = .ok (.aload_n 0, 1) := by decide +kernel
theorem dX4_table_55 : decode cX4_table 55 = .ok (.getfield 13, 3) := by decide +kernel
theorem dX4_table_58 : decode cX4_table 58 = .ok (.iconst 1, 1) := by decide +kernel
theorem dX4_table_59 : decode cX4_table 59 = .ok (.isub, 1) := by decide +kernel
theorem dX4_table_60 : decode cX4_table 60 = .ok (.ireturn, 1) := by decide +kernel
set_option maxRecDepth 20000 in
theorem ggX4_link_X4_isCellColumn : GoodIn wsX4_link wsX4_isCellColumn := goodIn_r _ [11, 12, 13, 14, 10, 15, 16, 17, 18, 19, 20, 21, 77, 78, 79, 80, 81, 82, 83, 84, 85, 86, 87, 88, 89, 90, 91, 92] (by decide +kernel) (by decide +kernel)
set_option maxRecDepth 20000 in
theorem gX4_link_X4_isCellColumn : GoodIn wsX4_link (wsV RX4 81 RX4 yX4_isCellColumn wsX4_isCellColumn) := goodIn_app (goodIn_of _ (by decide +kernel)) ggX4_link_X4_isCellColumn
set_option maxRecDepth 20000 in
theorem ggX4_link_X4_isTable : GoodIn wsX4_link wsX4_isTable := goodIn_r _ [20, 21, 77, 78, 79, 80, 81, 82, 83, 84, 85, 86, 87, 88, 89, 90, 91, 92] (by decide +kernel) (by decide +kernel)
set_option maxRecDepth 20000 in
theorem gX4_link_X4_isTable : GoodIn wsX4_link (wsV RX4 85 RX4 yX4_isTable wsX4_isTable) := goodIn_app (goodIn_of _ (by decide +kernel)) ggX4_link_X4_isTable
set_option maxRecDepth 20000 in
theorem ggX4_link_X4_needArgument : GoodIn wsX4_link wsX4_needArgument := goodIn_ca (goodIn_r _ [24, 25, 26] (by decide +kernel) (by decide +kernel)) (goodIn_sub (fun _ h => List.mem_cons_of_mem _ (List.mem_append_left _ (List.mem_append_left _ (List.mem_append_right _ h)))) (by decide +kernel))
set_option maxRecDepth 20000 in
theorem gX4_link_X4_needArgument : GoodIn wsX4_link (va_wsS RX4 74 yX4_needArgument wsX4_needArgument) := goodIn_app (goodIn_of _ (by decide +kernel)) ggX4_link_X4_needArgument
set_option maxRecDepth 20000 in
theorem ggX4_link_X4_needElement : GoodIn wsX4_link wsX4_needElement := goodIn_ca (goodIn_r _ [29, 30, 31] (by decide +kernel) (by decide +kernel)) (goodIn_sub (fun _ h => List.mem_cons_of_mem _ (List.mem_append_left _ (List.mem_append_right _ h))) (by decide +kernel))
set_option maxRecDepth 20000 in
theorem gX4_link_X4_needElement : GoodIn wsX4_link (va_wsS RX4 78 yX4_needElement wsX4_needElement) := goodIn_app (goodIn_of _ (by decide +kernel)) ggX4_link_X4_needElement
set_option maxRecDepth 20000 in
theorem ggX4_link_X1_init : GoodIn wsX4_link wsX1_init := goodIn_r _ [34, 35, 36, 37, 38, 39, 40, 41, 93, 94, 95, 96] (by decide +kernel) (by decide +kernel)
set_option maxRecDepth 20000 in
theorem gX4_link_X1_init : GoodIn wsX4_link (wsX1_init) := ggX4_link_X1_init
set_option maxRecDepth 20000 in
theorem ggX4_link_X1_isBroken : GoodIn wsX4_link wsX1_isBroken := goodIn_r _ [45, 46, 47, 48, 4, 49, 38, 39, 50, 51, 52, 53, 54, 55, 56, 57, 58, 59, 60, 61, 62, 63, 64, 40, 65, 66, 67, 68, 69, 93, 94, 95, 96, 97, 98] (by decide +kernel) (by decide +kernel)
set_option maxRecDepth 20000 in
theorem gX4_link_X1_isBroken : GoodIn wsX4_link (wsV RX4 92 RX1 yX1_isBroken wsX1_isBroken) := goodIn_app (goodIn_of _ (by decide +kernel)) ggX4_link_X1_isBroken
set_option maxRecDepth 20000 in
theorem ggX4_link_X4_refuseIf : GoodIn wsX4_link wsX4_refuseIf := goodIn_ca (goodIn_r _ [73, 74, 75, 76, 77, 78, 79, 80, 81, 82, 83, 84, 85, 86, 87, 88, 89, 90, 91, 92] (by decide +kernel) (by decide +kernel)) (goodIn_sub (fun _ h => List.mem_cons_of_mem _ (List.mem_append_right _ h)) (by decide +kernel))
set_option maxRecDepth 20000 in
theorem gX4_link_X4_refuseIf : GoodIn wsX4_link (wsV RX4 96 RX4 yX4_refuseIf wsX4_refuseIf) := goodIn_app (goodIn_of _ (by decide +kernel)) ggX4_link_X4_refuseIf
theorem dX4_link_0 : decode cX4_link 0 = .ok (.aload_n 0, 1) := by decide +kernel
theorem dX4_link_1 : decode cX4_link 1 = .ok (.iload_n 1, 1) := by decide +kernel
theorem dX4_link_2 : decode cX4_link 2 = .ok (.iload_n 2, 1) := by decide +kernel
theorem dX4_link_3 : decode cX4_link 3 = .ok (.invokevirtual 81, 3) := by decide +kernel
theorem dX4_link_6 : decode cX4_link 6 = .ok (.ifCond .eq 15, 3) := by decide +kernel
theorem dX4_link_9 : decode cX4_link 9 = .ok (.aload_n 0, 1) := by decide +kernel
theorem dX4_link_10 : decode cX4_link 10 = .ok (.iload_n 3, 1) := by decide +kernel
theorem dX4_link_11 : decode cX4_link 11 = .ok (.invokevirtual 85, 3) := by decide +kernel
theorem dX4_link_14 : decode cX4_link 14 = .ok (.ifCond .eq 7, 3) := by decide +kernel
theorem dX4_link_17 : decode cX4_link 17 = .ok (.iconst 1, 1) := by decide +kernel
theorem dX4_link_18 : decode cX4_link 18 = .ok (.goto 4, 3) := by decide +kernel
theorem dX4_link_21 : decode cX4_link 21 = .ok (.iconst 0, 1) := by decide +kernel
theorem dX4_link_22 : decode cX4_link 22 = .ok (.invokestatic 74, 3) := by decide +kernel
theorem dX4_link_25 : decode cX4_link 25 = .ok (.iload 4, 2) := by decide +kernel
theorem dX4_link_27 : decode cX4_link 27 = .ok (.ifCond .eq 15, 3) := by decide +kernel
theorem dX4_link_30 : decode cX4_link 30 = .ok (.iload 4, 2) := by decide +kernel
theorem dX4_link_32 : decode cX4_link 32 = .ok (.iconst 1, 1) := by decide +kernel
theorem dX4_link_33 : decode cX4_link 33 = .ok (.if_icmp .eq 9, 3) := by decide +kernel
theorem dX4_link_36 : decode cX4_link 36 = .ok (.iload 4, 2) := by decide +kernel
theorem dX4_link_38 : decode cX4_link 38 = .ok (.iconst 2, 1) := by decide +kernel
theorem dX4_link_39 : decode cX4_link 39 = .ok (.if_icmp .ne 7, 3) := by decide +kernel
theorem dX4_link_42 : decode cX4_link 42 = .ok (.iconst 1, 1) := by decide +kernel
theorem dX4_link_43 : decode cX4_link 43 = .ok (.goto 4, 3) := by decide +kernel
theorem dX4_link_46 : decode cX4_link 46 = .ok (.iconst 0, 1) := by decide +kernel
theorem dX4_link_47 : decode cX4_link 47 = .ok (.invokestatic 74, 3) := by decide +kernel
theorem dX4_link_50 : decode cX4_link 50 = .ok (.aload_n 0, 1) := by decide +kernel
theorem dX4_link_51 : decode cX4_link 51 = .ok (.getfield 23, 3) := by decide +kernel
theorem dX4_link_54 : decode cX4_link 54 = .ok (.bipush 6, 2) := by decide +kernel
theorem dX4_link_56 : decode cX4_link 56 = .ok (.if_icmp .ge 7, 3) := by decide +kernel
theorem dX4_link_59 : decode cX4_link 59 = .ok (.iconst 1, 1) := by decide +kernel
theorem dX4_link_60 : decode cX4_link 60 = .ok (.goto 4, 3) := by decide +kernel
theorem dX4_link_63 : decode cX4_link 63 = .ok (.iconst 0, 1) := by decide +kernel
theorem dX4_link_64 : decode cX4_link 64 = .ok (.invokestatic 78, 3) := by decide +kernel
theorem dX4_link_67 : decode cX4_link 67 = .ok (.new 17, 3) := by decide +kernel
theorem dX4_link_70 : decode cX4_link 70 = .ok (.dup, 1) := by decide +kernel
theorem dX4_link_71 : decode cX4_link 71 = .ok (.iload_n 1, 1) := by decide +kernel
theorem dX4_link_72 : decode cX4_link 72 = .ok (.iload_n 2, 1) := by decide +kernel
theorem dX4_link_73 : decode cX4_link 73 = .ok (.iload_n 3, 1) := by decide +kernel
theorem dX4_link_74 : decode cX4_link 74 = .ok (.iload 4, 2) := by decide +kernel
theorem dX4_link_76 : decode cX4_link 76 = .ok (.invokespecial 89, 3) := by decide +kernel
theorem dX4_link_79 : decode cX4_link 79 = .ok (.astore 5, 2) := by decide +kernel
theorem dX4_link_81 : decode cX4_link 81 = .ok (.aload_n 0, 1) := by decide +kernel
theorem dX4_link_82 : decode cX4_link 82 = .ok (.aload 5, 2) := by decide +kernel
theorem dX4_link_84 : decode cX4_link 84 = .ok (.aload_n 0, 1) := by decide +kernel
theorem dX4_link_85 : decode cX4_link 85 = .ok (.getfield 53, 3) := by decide +kernel
theorem dX4_link_88 : decode cX4_link 88 = .ok (.invokevirtual 92, 3) := by decide +kernel
theorem dX4_link_91 : decode cX4_link 91 = .ok (.sipush 400, 3) := by decide +kernel
theorem dX4_link_94 : decode cX4_link 94 = .ok (.aload_n 0, 1) := by decide +kernel
theorem dX4_link_95 : decode cX4_link 95 = .ok (.getfield 23, 3) := by decide +kernel
theorem dX4_link_98 : decode cX4_link 98 = .ok (.iadd, 1) := by decide +kernel
theorem dX4_link_99 : decode cX4_link 99 = .ok (.invokevirtual 96, 3) := by decide +kernel
theorem dX4_link_102 : decode cX4_link 102 = .ok (.aload_n 0, 1) := by decide +kernel
theorem dX4_link_103 : decode cX4_link 103 = .ok (.getfield 19, 3) := by decide +kernel
theorem dX4_link_106 : decode cX4_link 106 = .ok (.aload_n 0, 1) := by decide +kernel
theorem dX4_link_107 : decode cX4_link 107 = .ok (.getfield 23, 3) := by decide +kernel
theorem dX4_link_110 : decode cX4_link 110 = .ok (.aload 5, 2) := by decide +kernel
theorem dX4_link_112 : decode cX4_link 112 = .ok (.aastore, 1) := by decide +kernel
theorem dX4_link_113 : decode cX4_link 113 = .ok (.aload_n 0, 1) := by decide +kernel
theorem dX4_link_114 : decode cX4_link 114 = .ok (.dup, 1) := by decide +kernel
theorem dX4_link_115 : decode cX4_link 115 = .ok (.getfield 23, 3) := by decide +kernel
theorem dX4_link_118 : decode cX4_link 118 = .ok (.iconst 1, 1) := by decide +kernel
theorem dX4_link_119 : decode cX4_link 119 = .ok (.iadd, 1) := by decide +kernel
theorem dX4_link_120 : decode cX4_link 120 = .ok (.putfield 23, 3) := by decide +kernel
theorem dX4_link_123 : decode cX4_link 123 = .ok (.aload_n 0, 1) := by decide +kernel
theorem dX4_link_124 : decode cX4_link 124 = .ok (.getfield 23, 3) := by decide +kernel
theorem dX4_link_127 : decode cX4_link 127 = .ok (.iconst 1, 1) := by decide +kernel
theorem dX4_link_128 : decode cX4_link 128 = .ok (.isub, 1) := by decide +kernel
theorem dX4_link_129 : decode cX4_link 129 = .ok (.ireturn, 1) := by decide +kernel
set_option maxRecDepth 20000 in
theorem ggX4_single_X4_isCellColumn : GoodIn wsX4_single wsX4_isCellColumn := goodIn_r _ [11, 12, 13, 14, 10, 15, 16, 17, 18, 19, 20, 21, 66, 67, 68, 69, 70, 71, 72, 73, 74, 75, 76, 77, 78, 79, 80, 81] (by decide +kernel) (by decide +kernel)
set_option maxRecDepth 20000 in
theorem gX4_single_X4_isCellColumn : GoodIn wsX4_single (wsV RX4 81 RX4 yX4_isCellColumn wsX4_isCellColumn) := goodIn_app (goodIn_of _ (by decide +kernel)) ggX4_single_X4_isCellColumn
set_option maxRecDepth 20000 in
theorem ggX4_single_X4_needArgument : GoodIn wsX4_single wsX4_needArgument := goodIn_ca (goodIn_r _ [24, 25, 26] (by decide +kernel) (by decide +kernel)) (goodIn_sub (fun _ h => List.mem_cons_of_mem _ (List.mem_append_left _ (List.mem_append_left _ (List.mem_append_right _ h)))) (by decide +kernel))
set_option maxRecDepth 20000 in
theorem gX4_single_X4_needArgument : GoodIn wsX4_single (va_wsS RX4 74 yX4_needArgument wsX4_needArgument) := goodIn_app (goodIn_of _ (by decide +kernel)) ggX4_single_X4_needArgument
set_option maxRecDepth 20000 in
theorem ggX4_single_X4_needElement : GoodIn wsX4_single wsX4_needElement := goodIn_ca (goodIn_r _ [29, 30, 31] (by decide +kernel) (by decide +kernel)) (goodIn_sub (fun _ h => List.mem_cons_of_mem _ (List.mem_append_left _ (List.mem_append_right _ h))) (by decide +kernel))
set_option maxRecDepth 20000 in
theorem gX4_single_X4_needElement : GoodIn wsX4_single (va_wsS RX4 78 yX4_needElement wsX4_needElement) := goodIn_app (goodIn_of _ (by decide +kernel)) ggX4_single_X4_needElement
set_option maxRecDepth 20000 in
theorem ggX4_single_X3_init : GoodIn wsX4_single wsX3_init := goodIn_r _ [34, 35, 36, 37, 38, 39, 82, 83] (by decide +kernel) (by decide +kernel)
set_option maxRecDepth 20000 in
theorem gX4_single_X3_init : GoodIn wsX4_single (wsX3_init) := ggX4_single_X3_init
set_option maxRecDepth 20000 in
theorem ggX4_single_X3_isBroken : GoodIn wsX4_single wsX3_isBroken := goodIn_r _ [43, 38, 39, 44, 45, 46, 47, 48, 49, 50, 51, 52, 53, 54, 55, 56, 57, 58, 82, 83, 84, 85] (by decide +kernel) (by decide +kernel)
set_option maxRecDepth 20000 in
theorem gX4_single_X3_isBroken : GoodIn wsX4_single (wsV RX4 103 RX3 yX3_isBroken wsX3_isBroken) := goodIn_app (goodIn_of _ (by decide +kernel)) ggX4_single_X3_isBroken
set_option maxRecDepth 20000 in
theorem ggX4_single_X4_refuseIf : GoodIn wsX4_single wsX4_refuseIf := goodIn_ca (goodIn_r _ [62, 63, 64, 65, 66, 67, 68, 69, 70, 71, 72, 73, 74, 75, 76, 77, 78, 79, 80, 81] (by decide +kernel) (by decide +kernel)) (goodIn_sub (fun _ h => List.mem_cons_of_mem _ (List.mem_append_right _ h)) (by decide +kernel))
set_option maxRecDepth 20000 in
theorem gX4_single_X4_refuseIf : GoodIn wsX4_single (wsV RX4 96 RX4 yX4_refuseIf wsX4_refuseIf) := goodIn_app (goodIn_of _ (by decide +kernel)) ggX4_single_X4_refuseIf
theorem dX4_single_0 : decode cX4_single 0 = .ok (.aload_n 0, 1) := by decide +kernel
theorem dX4_single_1 : decode cX4_single 1 = .ok (.iload_n 1, 1) := by decide +kernel
theorem dX4_single_2 : decode cX4_single 2 = .ok (.iload_n 2, 1) := by decide +kernel
theorem dX4_single_3 : decode cX4_single 3 = .ok (.invokevirtual 81, 3) := by decide +kernel
theorem dX4_single_6 : decode cX4_single 6 = .ok (.invokestatic 74, 3) := by decide +kernel
theorem dX4_single_9 : decode cX4_single 9 = .ok (.aload_n 0, 1) := by decide +kernel
theorem dX4_single_10 : decode cX4_single 10 = .ok (.getfield 32, 3) := by decide +kernel
theorem dX4_single_13 : decode cX4_single 13 = .ok (.iconst 4, 1) := by decide +kernel
theorem dX4_single_14 : decode cX4_single 14 = .ok (.if_icmp .ge 7, 3) := by decide +kernel
theorem dX4_single_17 : decode cX4_single 17 = .ok (.iconst 1, 1) := by decide +kernel
theorem dX4_single_18 : decode cX4_single 18 = .ok (.goto 4, 3) := by decide +kernel
theorem dX4_single_21 : decode cX4_single 21 = .ok (.iconst 0, 1) := by decide +kernel
theorem dX4_single_22 : decode cX4_single 22 = .ok (.invokestatic 78, 3) := by decide +kernel
theorem dX4_single_25 : decode cX4_single 25 = .ok (.new 26, 3) := by decide +kernel
theorem dX4_single_28 : decode cX4_single 28 = .ok (.dup, 1) := by decide +kernel
theorem dX4_single_29 : decode cX4_single 29 = .ok (.iload_n 1, 1) := by decide +kernel
theorem dX4_single_30 : decode cX4_single 30 = .ok (.iload_n 2, 1) := by decide +kernel
theorem dX4_single_31 : decode cX4_single 31 = .ok (.invokespecial 100, 3) := by decide +kernel
theorem dX4_single_34 : decode cX4_single 34 = .ok (.astore_n 3, 1) := by decide +kernel
theorem dX4_single_35 : decode cX4_single 35 = .ok (.aload_n 0, 1) := by decide +kernel
theorem dX4_single_36 : decode cX4_single 36 = .ok (.aload_n 3, 1) := by decide +kernel
theorem dX4_single_37 : decode cX4_single 37 = .ok (.aload_n 0, 1) := by decide +kernel
theorem dX4_single_38 : decode cX4_single 38 = .ok (.getfield 53, 3) := by decide +kernel
theorem dX4_single_41 : decode cX4_single 41 = .ok (.invokevirtual 103, 3) := by decide +kernel
theorem dX4_single_44 : decode cX4_single 44 = .ok (.sipush 300, 3) := by decide +kernel
theorem dX4_single_47 : decode cX4_single 47 = .ok (.aload_n 0, 1) := by decide +kernel
theorem dX4_single_48 : decode cX4_single 48 = .ok (.getfield 32, 3) := by decide +kernel
theorem dX4_single_51 : decode cX4_single 51 = .ok (.iadd, 1) := by decide +kernel
theorem dX4_single_52 : decode cX4_single 52 = .ok (.invokevirtual 96, 3) := by decide +kernel
theorem dX4_single_55 : decode cX4_single 55 = .ok (.aload_n 0, 1) := by decide +kernel
theorem dX4_single_56 : decode cX4_single 56 = .ok (.getfield 28, 3) := by decide +kernel
theorem dX4_single_59 : decode cX4_single 59 = .ok (.aload_n 0, 1) := by decide +kernel
theorem dX4_single_60 : decode cX4_single 60 = .ok (.getfield 32, 3) := by decide +kernel
theorem dX4_single_63 : decode cX4_single 63 = .ok (.aload_n 3, 1) := by decide +kernel
theorem dX4_single_64 : decode cX4_single 64 = .ok (.aastore, 1) := by decide +kernel
theorem dX4_single_65 : decode cX4_single 65 = .ok (.aload_n 0, 1) := by decide +kernel
theorem dX4_single_66 : decode cX4_single 66 = .ok (.dup, 1) := by decide +kernel
theorem dX4_single_67 : decode cX4_single 67 = .ok (.getfield 32, 3) := by decide +kernel
theorem dX4_single_70 : decode cX4_single 70 = .ok (.iconst 1, 1) := by decide +kernel
theorem dX4_single_71 : decode cX4_single 71 = .ok (.iadd, 1) := by decide +kernel
theorem dX4_single_72 : decode cX4_single 72 = .ok (.putfield 32, 3) := by decide +kernel
theorem dX4_single_75 : decode cX4_single 75 = .ok (.aload_n 0, 1) := by decide +kernel
theorem dX4_single_76 : decode cX4_single 76 = .ok (.getfield 32, 3) := by decide +kernel
theorem dX4_single_79 : decode cX4_single 79 = .ok (.iconst 1, 1) := by decide +kernel
theorem dX4_single_80 : decode cX4_single 80 = .ok (.isub, 1) := by decide +kernel
theorem dX4_single_81 : decode cX4_single 81 = .ok (.ireturn, 1) := by decide +kernel
set_option maxRecDepth 20000 in
theorem ggX4_word_X0_isWord : GoodIn wsX4_word wsX0_isWord := goodIn_r _ [6] (by decide +kernel) (by decide +kernel)
set_option maxRecDepth 20000 in
theorem gX4_word_X0_isWord : GoodIn wsX4_word (va_wsS RX4 104 yX0_isWord wsX0_isWord) := goodIn_app (goodIn_of _ (by decide +kernel)) ggX4_word_X0_isWord
set_option maxRecDepth 20000 in
theorem ggX4_word_X4_needArgument : GoodIn wsX4_word wsX4_needArgument := goodIn_ca (goodIn_r _ [10, 11, 12] (by decide +kernel) (by decide +kernel)) (goodIn_sub (fun _ h => List.mem_cons_of_mem _ (List.mem_append_left _ (List.mem_append_right _ h))) (by decide +kernel))
set_option maxRecDepth 20000 in
theorem gX4_word_X4_needArgument : GoodIn wsX4_word (va_wsS RX4 74 yX4_needArgument wsX4_needArgument) := goodIn_app (goodIn_of _ (by decide +kernel)) ggX4_word_X4_needArgument
set_option maxRecDepth 20000 in
theorem ggX4_word_X4_needElement : GoodIn wsX4_word wsX4_needElement := goodIn_ca (goodIn_r _ [15, 16, 17] (by decide +kernel) (by decide +kernel)) (goodIn_sub (fun _ h => List.mem_cons_of_mem _ (List.mem_append_right _ h)) (by decide +kernel))
set_option maxRecDepth 20000 in
theorem gX4_word_X4_needElement : GoodIn wsX4_word (va_wsS RX4 78 yX4_needElement wsX4_needElement) := goodIn_app (goodIn_of _ (by decide +kernel)) ggX4_word_X4_needElement
theorem dX4_word_0 : decode cX4_word 0 = .ok (.iload_n 1, 1) := by decide +kernel
theorem dX4_word_1 : decode cX4_word 1 = .ok (.invokestatic 104, 3) := by decide +kernel
theorem dX4_word_4 : decode cX4_word 4 = .ok (.invokestatic 74, 3) := by decide +kernel
theorem dX4_word_7 : decode cX4_word 7 = .ok (.aload_n 0, 1) := by decide +kernel
theorem dX4_word_8 : decode cX4_word 8 = .ok (.getfield 47, 3) := by decide +kernel
theorem dX4_word_11 : decode cX4_word 11 = .ok (.bipush 10, 2) := by decide +kernel
theorem dX4_word_13 : decode cX4_word 13 = .ok (.if_icmp .ge 7, 3) := by decide +kernel
theorem dX4_word_16 : decode cX4_word 16 = .ok (.iconst 1, 1) := by decide +kernel
theorem dX4_word_17 : decode cX4_word 17 = .ok (.goto 4, 3) := by decide +kernel
theorem dX4_word_20 : decode cX4_word 20 = .ok (.iconst 0, 1) := by decide +kernel
theorem dX4_word_21 : decode cX4_word 21 = .ok (.invokestatic 78, 3) := by decide +kernel
theorem dX4_word_24 : decode cX4_word 24 = .ok (.aload_n 0, 1) := by decide +kernel
theorem dX4_word_25 : decode cX4_word 25 = .ok (.getfield 44, 3) := by decide +kernel
theorem dX4_word_28 : decode cX4_word 28 = .ok (.aload_n 0, 1) := by decide +kernel
theorem dX4_word_29 : decode cX4_word 29 = .ok (.getfield 47, 3) := by decide +kernel
theorem dX4_word_32 : decode cX4_word 32 = .ok (.iload_n 1, 1) := by decide +kernel
theorem dX4_word_33 : decode cX4_word 33 = .ok (.iastore, 1) := by decide +kernel
theorem dX4_word_34 : decode cX4_word 34 = .ok (.aload_n 0, 1) := by decide +kernel
theorem dX4_word_35 : decode cX4_word 35 = .ok (.dup, 1) := by decide +kernel
theorem dX4_word_36 : decode cX4_word 36 = .ok (.getfield 47, 3) := by decide +kernel
theorem dX4_word_39 : decode cX4_word 39 = .ok (.iconst 1, 1) := by decide +kernel
theorem dX4_word_40 : decode cX4_word 40 = .ok (.iadd, 1) := by decide +kernel
theorem dX4_word_41 : decode cX4_word 41 = .ok (.putfield 47, 3) := by decide +kernel
theorem dX4_word_44 : decode cX4_word 44 = .ok (.aload_n 0, 1) := by decide +kernel
theorem dX4_word_45 : decode cX4_word 45 = .ok (.getfield 47, 3) := by decide +kernel
theorem dX4_word_48 : decode cX4_word 48 = .ok (.ireturn, 1) := by decide +kernel
set_option maxRecDepth 20000 in
theorem ggX4_check_X4_isTable : GoodIn wsX4_check wsX4_isTable := goodIn_r _ [14, 15, 93, 94, 95, 96, 97, 98, 99, 100, 101, 102, 103, 104, 105, 106, 107, 108] (by decide +kernel) (by decide +kernel)
set_option maxRecDepth 20000 in
theorem gX4_check_X4_isTable : GoodIn wsX4_check (wsV RX4 85 RX4 yX4_isTable wsX4_isTable) := goodIn_app (goodIn_of _ (by decide +kernel)) ggX4_check_X4_isTable
set_option maxRecDepth 20000 in
theorem ggX4_check_X4_needArgument : GoodIn wsX4_check wsX4_needArgument := goodIn_ca (goodIn_r _ [18, 19, 20] (by decide +kernel) (by decide +kernel)) (goodIn_sub (fun _ h => List.mem_cons_of_mem _ (List.mem_append_left _ (List.mem_append_left _ (List.mem_append_right _ h)))) (by decide +kernel))
set_option maxRecDepth 20000 in
theorem gX4_check_X4_needArgument : GoodIn wsX4_check (va_wsS RX4 74 yX4_needArgument wsX4_needArgument) := goodIn_app (goodIn_of _ (by decide +kernel)) ggX4_check_X4_needArgument
set_option maxRecDepth 20000 in
theorem ggX4_check_J7_copyOf_59c91 : GoodIn wsX4_check wsJ7_copyOf_59c91 := goodIn_r _ [24, 25, 26, 27, 28, 29, 30, 31, 32, 33, 34, 35, 36, 37, 38, 39] (by decide +kernel) (by decide +kernel)
set_option maxRecDepth 20000 in
theorem gX4_check_J7_copyOf_59c91 : GoodIn wsX4_check (va_wsS RX4 107 yJ7_copyOf_59c91 wsJ7_copyOf_59c91) := goodIn_app (goodIn_of _ (by decide +kernel)) ggX4_check_J7_copyOf_59c91
set_option maxRecDepth 20000 in
theorem ggX4_check_X0_areRight : GoodIn wsX4_check wsX0_areRight := goodIn_r _ [42, 43, 44, 7, 45] (by decide +kernel) (by decide +kernel)
set_option maxRecDepth 20000 in
theorem gX4_check_X0_areRight : GoodIn wsX4_check (va_wsS RX4 113 yX0_areRight wsX0_areRight) := goodIn_app (goodIn_of _ (by decide +kernel)) ggX4_check_X0_areRight
set_option maxRecDepth 20000 in
theorem ggX4_check_X4_needElement : GoodIn wsX4_check wsX4_needElement := goodIn_ca (goodIn_r _ [48, 49, 50] (by decide +kernel) (by decide +kernel)) (goodIn_sub (fun _ h => List.mem_cons_of_mem _ (List.mem_append_left _ (List.mem_append_right _ h))) (by decide +kernel))
set_option maxRecDepth 20000 in
theorem gX4_check_X4_needElement : GoodIn wsX4_check (va_wsS RX4 78 yX4_needElement wsX4_needElement) := goodIn_app (goodIn_of _ (by decide +kernel)) ggX4_check_X4_needElement
set_option maxRecDepth 20000 in
theorem ggX4_check_X0_init : GoodIn wsX4_check wsX0_init := goodIn_r _ [53, 54, 55, 56, 57, 58, 31, 59, 109, 110, 111] (by decide +kernel) (by decide +kernel)
set_option maxRecDepth 20000 in
theorem gX4_check_X0_init : GoodIn wsX4_check (wsX0_init) := ggX4_check_X0_init
set_option maxRecDepth 20000 in
theorem ggX4_check_X0_isBroken : GoodIn wsX4_check wsX0_isBroken := goodIn_r _ [63, 57, 64, 65, 66, 67, 68, 69, 70, 71, 72, 7, 73, 58, 59, 43, 44, 45, 74, 75, 76, 77, 78, 79, 80, 81, 82, 83, 84, 85, 109, 110, 111, 112, 113] (by decide +kernel) (by decide +kernel)
set_option maxRecDepth 20000 in
theorem gX4_check_X0_isBroken : GoodIn wsX4_check (wsV RX4 120 RX0 yX0_isBroken wsX0_isBroken) := goodIn_app (goodIn_of _ (by decide +kernel)) ggX4_check_X0_isBroken
set_option maxRecDepth 20000 in
theorem ggX4_check_X4_refuseIf : GoodIn wsX4_check wsX4_refuseIf := goodIn_ca (goodIn_r _ [89, 90, 91, 92, 93, 94, 95, 96, 97, 98, 99, 100, 101, 102, 103, 104, 105, 106, 107, 108] (by decide +kernel) (by decide +kernel)) (goodIn_sub (fun _ h => List.mem_cons_of_mem _ (List.mem_append_right _ h)) (by decide +kernel))
set_option maxRecDepth 20000 in
theorem gX4_check_X4_refuseIf : GoodIn wsX4_check (wsV RX4 96 RX4 yX4_refuseIf wsX4_refuseIf) := goodIn_app (goodIn_of _ (by decide +kernel)) ggX4_check_X4_refuseIf
theorem dX4_check_0 : decode cX4_check 0 = .ok (.aload_n 0, 1) := by decide +kernel
theorem dX4_check_1 : decode cX4_check 1 = .ok (.iload_n 1, 1) := by decide +kernel
theorem dX4_check_2 : decode cX4_check 2 = .ok (.invokevirtual 85, 3) := by decide +kernel
theorem dX4_check_5 : decode cX4_check 5 = .ok (.invokestatic 74, 3) := by decide +kernel
theorem dX4_check_8 : decode cX4_check 8 = .ok (.aload_n 0, 1) := by decide +kernel
theorem dX4_check_9 : decode cX4_check 9 = .ok (.getfield 44, 3) := by decide +kernel
theorem dX4_check_12 : decode cX4_check 12 = .ok (.aload_n 0, 1) := by decide +kernel
theorem dX4_check_13 : decode cX4_check 13 = .ok (.getfield 47, 3) := by decide +kernel
theorem dX4_check_16 : decode cX4_check 16 = .ok (.invokestatic 107, 3) := by decide +kernel
theorem dX4_check_19 : decode cX4_check 19 = .ok (.astore_n 2, 1) := by decide +kernel
theorem dX4_check_20 : decode cX4_check 20 = .ok (.aload_n 0, 1) := by decide +kernel
theorem dX4_check_21 : decode cX4_check 21 = .ok (.iconst 0, 1) := by decide +kernel
theorem dX4_check_22 : decode cX4_check 22 = .ok (.putfield 47, 3) := by decide +kernel
theorem dX4_check_25 : decode cX4_check 25 = .ok (.aload_n 2, 1) := by decide +kernel
theorem dX4_check_26 : decode cX4_check 26 = .ok (.aload_n 0, 1) := by decide +kernel
theorem dX4_check_27 : decode cX4_check 27 = .ok (.getfield 9, 3) := by decide +kernel
theorem dX4_check_30 : decode cX4_check 30 = .ok (.iload_n 1, 1) := by decide +kernel
theorem dX4_check_31 : decode cX4_check 31 = .ok (.iaload, 1) := by decide +kernel
theorem dX4_check_32 : decode cX4_check 32 = .ok (.invokestatic 113, 3) := by decide +kernel
theorem dX4_check_35 : decode cX4_check 35 = .ok (.invokestatic 74, 3) := by decide +kernel
theorem dX4_check_38 : decode cX4_check 38 = .ok (.aload_n 0, 1) := by decide +kernel
theorem dX4_check_39 : decode cX4_check 39 = .ok (.getfield 41, 3) := by decide +kernel
theorem dX4_check_42 : decode cX4_check 42 = .ok (.iconst 4, 1) := by decide +kernel
theorem dX4_check_43 : decode cX4_check 43 = .ok (.if_icmp .ge 7, 3) := by decide +kernel
theorem dX4_check_46 : decode cX4_check 46 = .ok (.iconst 1, 1) := by decide +kernel
theorem dX4_check_47 : decode cX4_check 47 = .ok (.goto 4, 3) := by decide +kernel
theorem dX4_check_50 : decode cX4_check 50 = .ok (.iconst 0, 1) := by decide +kernel
theorem dX4_check_51 : decode cX4_check 51 = .ok (.invokestatic 78, 3) := by decide +kernel
theorem dX4_check_54 : decode cX4_check 54 = .ok (.new 35, 3) := by decide +kernel
theorem dX4_check_57 : decode cX4_check 57 = .ok (.dup, 1) := by decide +kernel
theorem dX4_check_58 : decode cX4_check 58 = .ok (.iload_n 1, 1) := by decide +kernel
theorem dX4_check_59 : decode cX4_check 59 = .ok (.aload_n 2, 1) := by decide +kernel
theorem dX4_check_60 : decode cX4_check 60 = .ok (.invokespecial 117, 3) := by decide +kernel
theorem dX4_check_63 : decode cX4_check 63 = .ok (.astore_n 3, 1) := by decide +kernel
theorem dX4_check_64 : decode cX4_check 64 = .ok (.aload_n 0, 1) := by decide +kernel
theorem dX4_check_65 : decode cX4_check 65 = .ok (.aload_n 3, 1) := by decide +kernel
theorem dX4_check_66 : decode cX4_check 66 = .ok (.aload_n 0, 1) := by decide +kernel
theorem dX4_check_67 : decode cX4_check 67 = .ok (.getfield 53, 3) := by decide +kernel
theorem dX4_check_70 : decode cX4_check 70 = .ok (.invokevirtual 120, 3) := by decide +kernel
theorem dX4_check_73 : decode cX4_check 73 = .ok (.sipush 500, 3) := by decide +kernel
theorem dX4_check_76 : decode cX4_check 76 = .ok (.aload_n 0, 1) := by decide +kernel
theorem dX4_check_77 : decode cX4_check 77 = .ok (.getfield 41, 3) := by decide +kernel
theorem dX4_check_80 : decode cX4_check 80 = .ok (.iadd, 1) := by decide +kernel
theorem dX4_check_81 : decode cX4_check 81 = .ok (.invokevirtual 96, 3) := by decide +kernel
theorem dX4_check_84 : decode cX4_check 84 = .ok (.aload_n 0, 1) := by decide +kernel
theorem dX4_check_85 : decode cX4_check 85 = .ok (.getfield 37, 3) := by decide +kernel
theorem dX4_check_88 : decode cX4_check 88 = .ok (.aload_n 0, 1) := by decide +kernel
theorem dX4_check_89 : decode cX4_check 89 = .ok (.getfield 41, 3) := by decide +kernel
theorem dX4_check_92 : decode cX4_check 92 = .ok (.aload_n 3, 1) := by decide +kernel
theorem dX4_check_93 : decode cX4_check 93 = .ok (.aastore, 1) := by decide +kernel
theorem dX4_check_94 : decode cX4_check 94 = .ok (.aload_n 0, 1) := by decide +kernel
theorem dX4_check_95 : decode cX4_check 95 = .ok (.dup, 1) := by decide +kernel
theorem dX4_check_96 : decode cX4_check 96 = .ok (.getfield 41, 3) := by decide +kernel
theorem dX4_check_99 : decode cX4_check 99 = .ok (.iconst 1, 1) := by decide +kernel
theorem dX4_check_100 : decode cX4_check 100 = .ok (.iadd, 1) := by decide +kernel
theorem dX4_check_101 : decode cX4_check 101 = .ok (.putfield 41, 3) := by decide +kernel
theorem dX4_check_104 : decode cX4_check 104 = .ok (.aload_n 0, 1) := by decide +kernel
theorem dX4_check_105 : decode cX4_check 105 = .ok (.getfield 41, 3) := by decide +kernel
theorem dX4_check_108 : decode cX4_check 108 = .ok (.iconst 1, 1) := by decide +kernel
theorem dX4_check_109 : decode cX4_check 109 = .ok (.isub, 1) := by decide +kernel
theorem dX4_check_110 : decode cX4_check 110 = .ok (.ireturn, 1) := by decide +kernel
set_option maxRecDepth 20000 in
theorem ggX4_insert_X4_isTable : GoodIn wsX4_insert wsX4_isTable := goodIn_r _ [7, 8, 132, 133, 134, 135, 136, 137, 138, 139, 140, 141, 142, 143, 144, 145, 146, 147] (by decide +kernel) (by decide +kernel)
set_option maxRecDepth 20000 in
theorem gX4_insert_X4_isTable : GoodIn wsX4_insert (wsV RX4 85 RX4 yX4_isTable wsX4_isTable) := goodIn_app (goodIn_of _ (by decide +kernel)) ggX4_insert_X4_isTable
set_option maxRecDepth 20000 in
theorem ggX4_insert_X4_needArgument : GoodIn wsX4_insert wsX4_needArgument := goodIn_ca (goodIn_r _ [11, 12, 13] (by decide +kernel) (by decide +kernel)) (goodIn_sub (fun _ h => List.mem_cons_of_mem _ (List.mem_append_left _ (List.mem_append_left _ (List.mem_append_right _ h)))) (by decide +kernel))
set_option maxRecDepth 20000 in
theorem gX4_insert_X4_needArgument : GoodIn wsX4_insert (va_wsS RX4 74 yX4_needArgument wsX4_needArgument) := goodIn_app (goodIn_of _ (by decide +kernel)) ggX4_insert_X4_needArgument
set_option maxRecDepth 20000 in
theorem ggX4_insert_X2_freePlace : GoodIn wsX4_insert wsX2_freePlace := goodIn_r _ [18, 19, 148, 149] (by decide +kernel) (by decide +kernel)
set_option maxRecDepth 20000 in
theorem gX4_insert_X2_freePlace : GoodIn wsX4_insert (wsV RX4 121 RX2 yX2_freePlace wsX2_freePlace) := goodIn_app (goodIn_of _ (by decide +kernel)) ggX4_insert_X2_freePlace
set_option maxRecDepth 20000 in
theorem ggX4_insert_X4_needElement : GoodIn wsX4_insert wsX4_needElement := goodIn_ca (goodIn_r _ [22, 23, 24] (by decide +kernel) (by decide +kernel)) (goodIn_sub (fun _ h => List.mem_cons_of_mem _ (List.mem_append_left _ (List.mem_append_right _ h))) (by decide +kernel))
set_option maxRecDepth 20000 in
theorem gX4_insert_X4_needElement : GoodIn wsX4_insert (va_wsS RX4 78 yX4_needElement wsX4_needElement) := goodIn_app (goodIn_of _ (by decide +kernel)) ggX4_insert_X4_needElement
set_option maxRecDepth 20000 in
theorem ggX4_insert_X2_become : GoodIn wsX4_insert wsX2_become := goodIn_r _ [28, 19, 29, 30, 31, 32, 33, 148, 149] (by decide +kernel) (by decide +kernel)
set_option maxRecDepth 20000 in
theorem gX4_insert_X2_become : GoodIn wsX4_insert (wsV RX4 125 RX2 yX2_become wsX2_become) := goodIn_app (goodIn_of _ (by decide +kernel)) ggX4_insert_X2_become
set_option maxRecDepth 20000 in
theorem ggX4_insert_X2_add : GoodIn wsX4_insert wsX2_add := goodIn_r _ [37, 19, 148, 149] (by decide +kernel) (by decide +kernel)
set_option maxRecDepth 20000 in
theorem gX4_insert_X2_add : GoodIn wsX4_insert (wsV RX4 129 RX2 yX2_add wsX2_add) := goodIn_app (goodIn_of _ (by decide +kernel)) ggX4_insert_X2_add
set_option maxRecDepth 20000 in
theorem ggX4_insert_X2_put : GoodIn wsX4_insert wsX2_put := goodIn_r _ [41, 33, 148, 149] (by decide +kernel) (by decide +kernel)
set_option maxRecDepth 20000 in
theorem gX4_insert_X2_put : GoodIn wsX4_insert (wsV RX4 132 RX2 yX2_put wsX2_put) := goodIn_app (goodIn_of _ (by decide +kernel)) ggX4_insert_X2_put
set_option maxRecDepth 20000 in
theorem ggX4_insert_X4_settle : GoodIn wsX4_insert wsX4_settle := goodIn_ca (goodIn_r _ [45, 2, 1, 46, 47, 48, 6, 49, 8, 50, 51, 52, 53, 54, 55, 56, 57, 58, 17, 59, 19, 60, 61, 62, 63, 33, 64, 65, 66, 67, 68, 69, 70, 71, 72, 73, 74, 75, 76, 77, 78, 79, 80, 81, 82, 83, 84, 85, 86, 87, 88, 89, 90, 91, 92, 93, 94, 95, 96, 97, 98, 99, 100, 101, 102, 103, 104, 105, 106, 107, 108, 109, 110, 111, 112, 113, 114, 115, 116, 117, 118, 119, 120, 121, 122, 123, 124, 125, 126, 127, 128, 129, 130, 131, 25, 26, 27, 28, 29, 30, 31, 32, 132, 133, 134, 135, 136, 137, 138, 139, 140, 141, 142, 143, 144, 145, 146, 147, 148, 149, 150, 151, 152, 153, 154, 155, 156, 157, 158] (by decide +kernel) (by decide +kernel)) (goodIn_sub (fun _ h => List.mem_cons_of_mem _ (List.mem_append_right _ h)) (by decide +kernel))
set_option maxRecDepth 20000 in
theorem gX4_insert_X4_settle : GoodIn wsX4_insert (wsV RX4 136 RX4 yX4_settle wsX4_settle) := goodIn_app (goodIn_of _ (by decide +kernel)) ggX4_insert_X4_settle
theorem dX4_insert_0 : decode cX4_insert 0 = .ok (.aload_n 0, 1) := by decide +kernel
theorem dX4_insert_1 : decode cX4_insert 1 = .ok (.iload_n 1, 1) := by decide +kernel
theorem dX4_insert_2 : decode cX4_insert 2 = .ok (.invokevirtual 85, 3) := by decide +kernel
theorem dX4_insert_5 : decode cX4_insert 5 = .ok (.ifCond .eq 11, 3) := by decide +kernel
theorem dX4_insert_8 : decode cX4_insert 8 = .ok (.iload_n 2, 1) := by decide +kernel
theorem dX4_insert_9 : decode cX4_insert 9 = .ok (.ifCond .eq 7, 3) := by decide +kernel
theorem dX4_insert_12 : decode cX4_insert 12 = .ok (.iconst 1, 1) := by decide +kernel
theorem dX4_insert_13 : decode cX4_insert 13 = .ok (.goto 4, 3) := by decide +kernel
theorem dX4_insert_16 : decode cX4_insert 16 = .ok (.iconst 0, 1) := by decide +kernel
theorem dX4_insert_17 : decode cX4_insert 17 = .ok (.invokestatic 74, 3) := by decide +kernel
theorem dX4_insert_20 : decode cX4_insert 20 = .ok (.aload_n 0, 1) := by decide +kernel
theorem dX4_insert_21 : decode cX4_insert 21 = .ok (.getfield 53, 3) := by decide +kernel
theorem dX4_insert_24 : decode cX4_insert 24 = .ok (.invokevirtual 121, 3) := by decide +kernel
theorem dX4_insert_27 : decode cX4_insert 27 = .ok (.istore 6, 2) := by decide +kernel
theorem dX4_insert_29 : decode cX4_insert 29 = .ok (.iload 6, 2) := by decide +kernel
theorem dX4_insert_31 : decode cX4_insert 31 = .ok (.iconst (-1), 1) := by decide +kernel
theorem dX4_insert_32 : decode cX4_insert 32 = .ok (.if_icmp .eq 7, 3) := by decide +kernel
theorem dX4_insert_35 : decode cX4_insert 35 = .ok (.iconst 1, 1) := by decide +kernel
theorem dX4_insert_36 : decode cX4_insert 36 = .ok (.goto 4, 3) := by decide +kernel
theorem dX4_insert_39 : decode cX4_insert 39 = .ok (.iconst 0, 1) := by decide +kernel
theorem dX4_insert_40 : decode cX4_insert 40 = .ok (.invokestatic 78, 3) := by decide +kernel
theorem dX4_insert_43 : decode cX4_insert 43 = .ok (.aload_n 0, 1) := by decide +kernel
theorem dX4_insert_44 : decode cX4_insert 44 = .ok (.getfield 57, 3) := by decide +kernel
theorem dX4_insert_47 : decode cX4_insert 47 = .ok (.aload_n 0, 1) := by decide +kernel
theorem dX4_insert_48 : decode cX4_insert 48 = .ok (.getfield 53, 3) := by decide +kernel
theorem dX4_insert_51 : decode cX4_insert 51 = .ok (.invokevirtual 125, 3) := by decide +kernel
theorem dX4_insert_54 : decode cX4_insert 54 = .ok (.aload_n 0, 1) := by decide +kernel
theorem dX4_insert_55 : decode cX4_insert 55 = .ok (.getfield 57, 3) := by decide +kernel
theorem dX4_insert_58 : decode cX4_insert 58 = .ok (.iload 6, 2) := by decide +kernel
theorem dX4_insert_60 : decode cX4_insert 60 = .ok (.iload_n 1, 1) := by decide +kernel
theorem dX4_insert_61 : decode cX4_insert 61 = .ok (.invokevirtual 129, 3) := by decide +kernel
theorem dX4_insert_64 : decode cX4_insert 64 = .ok (.aload_n 0, 1) := by decide +kernel
theorem dX4_insert_65 : decode cX4_insert 65 = .ok (.getfield 57, 3) := by decide +kernel
theorem dX4_insert_68 : decode cX4_insert 68 = .ok (.iload 6, 2) := by decide +kernel
theorem dX4_insert_70 : decode cX4_insert 70 = .ok (.iconst 0, 1) := by decide +kernel
theorem dX4_insert_71 : decode cX4_insert 71 = .ok (.iload_n 2, 1) := by decide +kernel
theorem dX4_insert_72 : decode cX4_insert 72 = .ok (.invokevirtual 132, 3) := by decide +kernel
theorem dX4_insert_75 : decode cX4_insert 75 = .ok (.aload_n 0, 1) := by decide +kernel
theorem dX4_insert_76 : decode cX4_insert 76 = .ok (.getfield 57, 3) := by decide +kernel
theorem dX4_insert_79 : decode cX4_insert 79 = .ok (.iload 6, 2) := by decide +kernel
theorem dX4_insert_81 : decode cX4_insert 81 = .ok (.iconst 1, 1) := by decide +kernel
theorem dX4_insert_82 : decode cX4_insert 82 = .ok (.iload_n 3, 1) := by decide +kernel
theorem dX4_insert_83 : decode cX4_insert 83 = .ok (.invokevirtual 132, 3) := by decide +kernel
theorem dX4_insert_86 : decode cX4_insert 86 = .ok (.aload_n 0, 1) := by decide +kernel
theorem dX4_insert_87 : decode cX4_insert 87 = .ok (.getfield 57, 3) := by decide +kernel
theorem dX4_insert_90 : decode cX4_insert 90 = .ok (.iload 6, 2) := by decide +kernel
theorem dX4_insert_92 : decode cX4_insert 92 = .ok (.iconst 2, 1) := by decide +kernel
theorem dX4_insert_93 : decode cX4_insert 93 = .ok (.iload 4, 2) := by decide +kernel
theorem dX4_insert_95 : decode cX4_insert 95 = .ok (.invokevirtual 132, 3) := by decide +kernel
theorem dX4_insert_98 : decode cX4_insert 98 = .ok (.aload_n 0, 1) := by decide +kernel
theorem dX4_insert_99 : decode cX4_insert 99 = .ok (.getfield 57, 3) := by decide +kernel
theorem dX4_insert_102 : decode cX4_insert 102 = .ok (.iload 6, 2) := by decide +kernel
theorem dX4_insert_104 : decode cX4_insert 104 = .ok (.iconst 3, 1) := by decide +kernel
theorem dX4_insert_105 : decode cX4_insert 105 = .ok (.iload 5, 2) := by decide +kernel
theorem dX4_insert_107 : decode cX4_insert 107 = .ok (.invokevirtual 132, 3) := by decide +kernel
theorem dX4_insert_110 : decode cX4_insert 110 = .ok (.aload_n 0, 1) := by decide +kernel
theorem dX4_insert_111 : decode cX4_insert 111 = .ok (.iconst (-1), 1) := by decide +kernel
theorem dX4_insert_112 : decode cX4_insert 112 = .ok (.invokevirtual 136, 3) := by decide +kernel
theorem dX4_insert_115 : decode cX4_insert 115 = .ok (.return_, 1) := by decide +kernel
set_option maxRecDepth 20000 in
theorem ggX4_delete_X4_isColumn : GoodIn wsX4_delete wsX4_isColumn := goodIn_r _ [7, 8, 9, 10, 11, 6, 12, 13, 154, 155, 156, 157, 158, 159, 160, 161, 162, 163, 164, 165, 166, 167, 168, 169] (by decide +kernel) (by decide +kernel)
set_option maxRecDepth 20000 in
theorem gX4_delete_X4_isColumn : GoodIn wsX4_delete (wsV RX4 140 RX4 yX4_isColumn wsX4_isColumn) := goodIn_app (goodIn_of _ (by decide +kernel)) ggX4_delete_X4_isColumn
set_option maxRecDepth 20000 in
theorem ggX4_delete_X4_needArgument : GoodIn wsX4_delete wsX4_needArgument := goodIn_ca (goodIn_r _ [16, 17, 18] (by decide +kernel) (by decide +kernel)) (goodIn_sub (fun _ h => List.mem_cons_of_mem _ (List.mem_append_left _ (List.mem_append_right _ h))) (by decide +kernel))
set_option maxRecDepth 20000 in
theorem gX4_delete_X4_needArgument : GoodIn wsX4_delete (va_wsS RX4 74 yX4_needArgument wsX4_needArgument) := goodIn_app (goodIn_of _ (by decide +kernel)) ggX4_delete_X4_needArgument
set_option maxRecDepth 20000 in
theorem ggX4_delete_X4_markGoing : GoodIn wsX4_delete wsX4_markGoing := goodIn_r _ [22, 23, 2, 24, 25, 26, 27, 28, 29, 30, 31, 32, 33, 34, 154, 155, 156, 157, 158, 159, 160, 161, 162, 163, 164, 165, 166, 167, 168, 169, 170, 171] (by decide +kernel) (by decide +kernel)
set_option maxRecDepth 20000 in
theorem gX4_delete_X4_markGoing : GoodIn wsX4_delete (wsV RX4 143 RX4 yX4_markGoing wsX4_markGoing) := goodIn_app (goodIn_of _ (by decide +kernel)) ggX4_delete_X4_markGoing
set_option maxRecDepth 20000 in
theorem ggX4_delete_X4_spreadGoing : GoodIn wsX4_delete wsX4_spreadGoing := goodIn_r _ [38, 39, 40, 41, 23, 42, 43, 44, 6, 45, 2, 46, 47, 48, 49, 50, 51, 52, 53, 54, 55, 56, 57, 58, 25, 26, 27, 28, 29, 59, 31, 32, 33, 34, 60, 61, 62, 63, 64, 154, 155, 156, 157, 158, 159, 160, 161, 162, 163, 164, 165, 166, 167, 168, 169, 172, 173, 174, 175, 170, 171] (by decide +kernel) (by decide +kernel)
set_option maxRecDepth 20000 in
theorem gX4_delete_X4_spreadGoing : GoodIn wsX4_delete (wsV RX4 146 RX4 yX4_spreadGoing wsX4_spreadGoing) := goodIn_app (goodIn_of _ (by decide +kernel)) ggX4_delete_X4_spreadGoing
set_option maxRecDepth 20000 in
theorem ggX4_delete_X2_become : GoodIn wsX4_delete wsX2_become := goodIn_r _ [68, 29, 69, 70, 71, 72, 34, 170, 171] (by decide +kernel) (by decide +kernel)
set_option maxRecDepth 20000 in
theorem gX4_delete_X2_become : GoodIn wsX4_delete (wsV RX4 125 RX2 yX2_become wsX2_become) := goodIn_app (goodIn_of _ (by decide +kernel)) ggX4_delete_X2_become
set_option maxRecDepth 20000 in
theorem ggX4_delete_X4_removeGoing : GoodIn wsX4_delete wsX4_removeGoing := goodIn_r _ [76, 23, 1, 77, 78, 79, 27, 80, 29, 154, 155, 156, 157, 158, 159, 160, 161, 162, 163, 164, 165, 166, 167, 168, 169, 170, 171] (by decide +kernel) (by decide +kernel)
set_option maxRecDepth 20000 in
theorem gX4_delete_X4_removeGoing : GoodIn wsX4_delete (wsV RX4 150 RX4 yX4_removeGoing wsX4_removeGoing) := goodIn_app (goodIn_of _ (by decide +kernel)) ggX4_delete_X4_removeGoing
set_option maxRecDepth 20000 in
theorem ggX4_delete_X4_loosenFromGoing : GoodIn wsX4_delete wsX4_loosenFromGoing := goodIn_r _ [84, 39, 23, 40, 41, 1, 85, 42, 43, 44, 6, 45, 2, 46, 47, 48, 49, 50, 51, 52, 53, 54, 55, 56, 57, 58, 25, 26, 27, 28, 29, 59, 31, 32, 33, 34, 60, 61, 62, 63, 64, 86, 87, 88, 89, 154, 155, 156, 157, 158, 159, 160, 161, 162, 163, 164, 165, 166, 167, 168, 169, 172, 173, 174, 175, 170, 171] (by decide +kernel) (by decide +kernel)
set_option maxRecDepth 20000 in
theorem gX4_delete_X4_loosenFromGoing : GoodIn wsX4_delete (wsV RX4 153 RX4 yX4_loosenFromGoing wsX4_loosenFromGoing) := goodIn_app (goodIn_of _ (by decide +kernel)) ggX4_delete_X4_loosenFromGoing
set_option maxRecDepth 20000 in
theorem ggX4_delete_X4_settle : GoodIn wsX4_delete wsX4_settle := goodIn_ca (goodIn_r _ [93, 1, 2, 94, 95, 96, 6, 97, 13, 98, 99, 39, 40, 100, 101, 102, 103, 104, 27, 105, 29, 64, 31, 32, 33, 34, 106, 107, 108, 109, 110, 111, 112, 113, 114, 115, 116, 117, 118, 119, 120, 49, 121, 53, 54, 55, 56, 57, 52, 58, 25, 26, 28, 59, 122, 47, 48, 50, 51, 60, 61, 62, 63, 123, 124, 125, 126, 127, 128, 129, 130, 131, 132, 133, 134, 135, 136, 137, 138, 139, 140, 141, 142, 143, 144, 145, 146, 147, 148, 149, 150, 151, 152, 153, 65, 66, 67, 68, 69, 70, 71, 72, 154, 155, 156, 157, 158, 159, 160, 161, 162, 163, 164, 165, 166, 167, 168, 169, 170, 171, 176, 177, 172, 173, 174, 175, 178, 179, 180] (by decide +kernel) (by decide +kernel)) (goodIn_sub (fun _ h => List.mem_cons_of_mem _ (List.mem_append_right _ h)) (by decide +kernel))
set_option maxRecDepth 20000 in
theorem gX4_delete_X4_settle : GoodIn wsX4_delete (wsV RX4 136 RX4 yX4_settle wsX4_settle) := goodIn_app (goodIn_of _ (by decide +kernel)) ggX4_delete_X4_settle
theorem dX4_delete_0 : decode cX4_delete 0 = .ok (.aload_n 0, 1) := by decide +kernel
theorem dX4_delete_1 : decode cX4_delete 1 = .ok (.iload_n 1, 1) := by decide +kernel
theorem dX4_delete_2 : decode cX4_delete 2 = .ok (.iload_n 2, 1) := by decide +kernel
theorem dX4_delete_3 : decode cX4_delete 3 = .ok (.invokevirtual 140, 3) := by decide +kernel
theorem dX4_delete_6 : decode cX4_delete 6 = .ok (.invokestatic 74, 3) := by decide +kernel
theorem dX4_delete_9 : decode cX4_delete 9 = .ok (.aload_n 0, 1) := by decide +kernel
theorem dX4_delete_10 : decode cX4_delete 10 = .ok (.iload_n 1, 1) := by decide +kernel
theorem dX4_delete_11 : decode cX4_delete 11 = .ok (.iload_n 2, 1) := by decide +kernel
theorem dX4_delete_12 : decode cX4_delete 12 = .ok (.iload_n 3, 1) := by decide +kernel
theorem dX4_delete_13 : decode cX4_delete 13 = .ok (.invokevirtual 143, 3) := by decide +kernel
theorem dX4_delete_16 : decode cX4_delete 16 = .ok (.iconst 1, 1) := by decide +kernel
theorem dX4_delete_17 : decode cX4_delete 17 = .ok (.istore 4, 2) := by decide +kernel
theorem dX4_delete_19 : decode cX4_delete 19 = .ok (.iconst 0, 1) := by decide +kernel
theorem dX4_delete_20 : decode cX4_delete 20 = .ok (.istore 5, 2) := by decide +kernel
theorem dX4_delete_22 : decode cX4_delete 22 = .ok (.iload 4, 2) := by decide +kernel
theorem dX4_delete_24 : decode cX4_delete 24 = .ok (.ifCond .eq 22, 3) := by decide +kernel
theorem dX4_delete_27 : decode cX4_delete 27 = .ok (.iload 5, 2) := by decide +kernel
theorem dX4_delete_29 : decode cX4_delete 29 = .ok (.bipush 24, 2) := by decide +kernel
theorem dX4_delete_31 : decode cX4_delete 31 = .ok (.if_icmp .ge 15, 3) := by decide +kernel
theorem dX4_delete_34 : decode cX4_delete 34 = .ok (.aload_n 0, 1) := by decide +kernel
theorem dX4_delete_35 : decode cX4_delete 35 = .ok (.invokevirtual 146, 3) := by decide +kernel
theorem dX4_delete_38 : decode cX4_delete 38 = .ok (.istore 4, 2) := by decide +kernel
theorem dX4_delete_40 : decode cX4_delete 40 = .ok (.iinc 5 1, 3) := by decide +kernel
theorem dX4_delete_43 : decode cX4_delete 43 = .ok (.goto (-21), 3) := by decide +kernel
theorem dX4_delete_46 : decode cX4_delete 46 = .ok (.aload_n 0, 1) := by decide +kernel
theorem dX4_delete_47 : decode cX4_delete 47 = .ok (.getfield 57, 3) := by decide +kernel
theorem dX4_delete_50 : decode cX4_delete 50 = .ok (.aload_n 0, 1) := by decide +kernel
theorem dX4_delete_51 : decode cX4_delete 51 = .ok (.getfield 53, 3) := by decide +kernel
theorem dX4_delete_54 : decode cX4_delete 54 = .ok (.invokevirtual 125, 3) := by decide +kernel
theorem dX4_delete_57 : decode cX4_delete 57 = .ok (.aload_n 0, 1) := by decide +kernel
theorem dX4_delete_58 : decode cX4_delete 58 = .ok (.invokevirtual 150, 3) := by decide +kernel
theorem dX4_delete_61 : decode cX4_delete 61 = .ok (.istore 5, 2) := by decide +kernel
theorem dX4_delete_63 : decode cX4_delete 63 = .ok (.aload_n 0, 1) := by decide +kernel
theorem dX4_delete_64 : decode cX4_delete 64 = .ok (.aload_n 0, 1) := by decide +kernel
theorem dX4_delete_65 : decode cX4_delete 65 = .ok (.invokevirtual 153, 3) := by decide +kernel
theorem dX4_delete_68 : decode cX4_delete 68 = .ok (.invokevirtual 136, 3) := by decide +kernel
theorem dX4_delete_71 : decode cX4_delete 71 = .ok (.iload 5, 2) := by decide +kernel
theorem dX4_delete_73 : decode cX4_delete 73 = .ok (.ireturn, 1) := by decide +kernel
set_option maxRecDepth 20000 in
theorem ggX4_update_X4_isColumn : GoodIn wsX4_update wsX4_isColumn := goodIn_r _ [7, 8, 9, 10, 11, 6, 12, 13, 138, 139, 140, 141, 142, 143, 144, 145, 146, 147, 148, 149, 150, 151, 152, 153] (by decide +kernel) (by decide +kernel)
set_option maxRecDepth 20000 in
theorem gX4_update_X4_isColumn : GoodIn wsX4_update (wsV RX4 140 RX4 yX4_isColumn wsX4_isColumn) := goodIn_app (goodIn_of _ (by decide +kernel)) ggX4_update_X4_isColumn
set_option maxRecDepth 20000 in
theorem ggX4_update_X4_needArgument : GoodIn wsX4_update wsX4_needArgument := goodIn_ca (goodIn_r _ [16, 17, 18] (by decide +kernel) (by decide +kernel)) (goodIn_sub (fun _ h => List.mem_cons_of_mem _ (List.mem_append_left _ (List.mem_append_left _ (List.mem_append_right _ h)))) (by decide +kernel))
set_option maxRecDepth 20000 in
theorem gX4_update_X4_needArgument : GoodIn wsX4_update (va_wsS RX4 74 yX4_needArgument wsX4_needArgument) := goodIn_app (goodIn_of _ (by decide +kernel)) ggX4_update_X4_needArgument
set_option maxRecDepth 20000 in
theorem ggX4_update_X2_find : GoodIn wsX4_update wsX2_find := goodIn_r _ [23, 24, 25, 26, 27, 22, 28, 29, 154, 155] (by decide +kernel) (by decide +kernel)
set_option maxRecDepth 20000 in
theorem gX4_update_X2_find : GoodIn wsX4_update (wsV RX4 156 RX2 yX2_find wsX2_find) := goodIn_app (goodIn_of _ (by decide +kernel)) ggX4_update_X2_find
set_option maxRecDepth 20000 in
theorem ggX4_update_X4_needElement : GoodIn wsX4_update wsX4_needElement := goodIn_ca (goodIn_r _ [32, 33, 34] (by decide +kernel) (by decide +kernel)) (goodIn_sub (fun _ h => List.mem_cons_of_mem _ (List.mem_append_left _ (List.mem_append_right _ h))) (by decide +kernel))
set_option maxRecDepth 20000 in
theorem gX4_update_X4_needElement : GoodIn wsX4_update (va_wsS RX4 78 yX4_needElement wsX4_needElement) := goodIn_app (goodIn_of _ (by decide +kernel)) ggX4_update_X4_needElement
set_option maxRecDepth 20000 in
theorem ggX4_update_X2_at : GoodIn wsX4_update wsX2_at := goodIn_r _ [28, 29, 154, 155] (by decide +kernel) (by decide +kernel)
set_option maxRecDepth 20000 in
theorem gX4_update_X2_at : GoodIn wsX4_update (wsV RX4 160 RX2 yX2_at wsX2_at) := goodIn_app (goodIn_of _ (by decide +kernel)) ggX4_update_X2_at
set_option maxRecDepth 20000 in
theorem ggX4_update_X2_become : GoodIn wsX4_update wsX2_become := goodIn_r _ [39, 24, 40, 41, 42, 43, 29, 154, 155] (by decide +kernel) (by decide +kernel)
set_option maxRecDepth 20000 in
theorem gX4_update_X2_become : GoodIn wsX4_update (wsV RX4 125 RX2 yX2_become wsX2_become) := goodIn_app (goodIn_of _ (by decide +kernel)) ggX4_update_X2_become
set_option maxRecDepth 20000 in
theorem ggX4_update_X2_put : GoodIn wsX4_update wsX2_put := goodIn_r _ [47, 29, 154, 155] (by decide +kernel) (by decide +kernel)
set_option maxRecDepth 20000 in
theorem gX4_update_X2_put : GoodIn wsX4_update (wsV RX4 132 RX2 yX2_put wsX2_put) := goodIn_app (goodIn_of _ (by decide +kernel)) ggX4_update_X2_put
set_option maxRecDepth 20000 in
theorem ggX4_update_X4_passOnKey : GoodIn wsX4_update wsX4_passOnKey := goodIn_r _ [51, 52, 53, 1, 54, 2, 55, 56, 57, 58, 59, 60, 61, 62, 63, 64, 65, 66, 67, 68, 69, 70, 22, 71, 24, 72, 26, 27, 28, 29, 73, 20, 21, 23, 25, 44, 45, 46, 47, 138, 139, 140, 141, 142, 143, 144, 145, 146, 147, 148, 149, 150, 151, 152, 153, 156, 157, 158, 159, 154, 155] (by decide +kernel) (by decide +kernel)
set_option maxRecDepth 20000 in
theorem gX4_update_X4_passOnKey : GoodIn wsX4_update (wsV RX4 163 RX4 yX4_passOnKey wsX4_passOnKey) := goodIn_app (goodIn_of _ (by decide +kernel)) ggX4_update_X4_passOnKey
set_option maxRecDepth 20000 in
theorem ggX4_update_X4_settle : GoodIn wsX4_update wsX4_settle := goodIn_ca (goodIn_r _ [77, 2, 1, 78, 79, 80, 6, 81, 13, 82, 83, 52, 53, 84, 85, 86, 87, 88, 22, 89, 24, 25, 26, 27, 28, 29, 90, 91, 92, 93, 94, 95, 96, 97, 98, 99, 100, 101, 102, 103, 104, 59, 105, 63, 64, 65, 66, 67, 62, 68, 69, 70, 71, 72, 106, 57, 58, 60, 61, 73, 20, 21, 23, 107, 108, 109, 110, 111, 112, 113, 114, 115, 116, 117, 118, 119, 120, 121, 122, 123, 124, 125, 126, 127, 128, 129, 130, 131, 132, 133, 134, 135, 136, 137, 36, 37, 38, 39, 40, 41, 42, 43, 138, 139, 140, 141, 142, 143, 144, 145, 146, 147, 148, 149, 150, 151, 152, 153, 154, 155, 160, 161, 156, 157, 158, 159, 162, 163, 164] (by decide +kernel) (by decide +kernel)) (goodIn_sub (fun _ h => List.mem_cons_of_mem _ (List.mem_append_right _ h)) (by decide +kernel))
set_option maxRecDepth 20000 in
theorem gX4_update_X4_settle : GoodIn wsX4_update (wsV RX4 136 RX4 yX4_settle wsX4_settle) := goodIn_app (goodIn_of _ (by decide +kernel)) ggX4_update_X4_settle
theorem dX4_update_0 : decode cX4_update 0 = .ok (.aload_n 0, 1) := by decide +kernel
theorem dX4_update_1 : decode cX4_update 1 = .ok (.iload_n 1, 1) := by decide +kernel
theorem dX4_update_2 : decode cX4_update 2 = .ok (.iload_n 3, 1) := by decide +kernel
theorem dX4_update_3 : decode cX4_update 3 = .ok (.invokevirtual 140, 3) := by decide +kernel
theorem dX4_update_6 : decode cX4_update 6 = .ok (.ifCond .eq 16, 3) := by decide +kernel
theorem dX4_update_9 : decode cX4_update 9 = .ok (.iload_n 3, 1) := by decide +kernel
theorem dX4_update_10 : decode cX4_update 10 = .ok (.ifCond .ne 8, 3) := by decide +kernel
theorem dX4_update_13 : decode cX4_update 13 = .ok (.iload 4, 2) := by decide +kernel
theorem dX4_update_15 : decode cX4_update 15 = .ok (.ifCond .eq 7, 3) := by decide +kernel
theorem dX4_update_18 : decode cX4_update 18 = .ok (.iconst 1, 1) := by decide +kernel
theorem dX4_update_19 : decode cX4_update 19 = .ok (.goto 4, 3) := by decide +kernel
theorem dX4_update_22 : decode cX4_update 22 = .ok (.iconst 0, 1) := by decide +kernel
theorem dX4_update_23 : decode cX4_update 23 = .ok (.invokestatic 74, 3) := by decide +kernel
theorem dX4_update_26 : decode cX4_update 26 = .ok (.aload_n 0, 1) := by decide +kernel
theorem dX4_update_27 : decode cX4_update 27 = .ok (.getfield 53, 3) := by decide +kernel
theorem dX4_update_30 : decode cX4_update 30 = .ok (.iload_n 1, 1) := by decide +kernel
theorem dX4_update_31 : decode cX4_update 31 = .ok (.iload_n 2, 1) := by decide +kernel
theorem dX4_update_32 : decode cX4_update 32 = .ok (.invokevirtual 156, 3) := by decide +kernel
theorem dX4_update_35 : decode cX4_update 35 = .ok (.istore 5, 2) := by decide +kernel
theorem dX4_update_37 : decode cX4_update 37 = .ok (.iload 5, 2) := by decide +kernel
theorem dX4_update_39 : decode cX4_update 39 = .ok (.iconst (-1), 1) := by decide +kernel
theorem dX4_update_40 : decode cX4_update 40 = .ok (.if_icmp .eq 7, 3) := by decide +kernel
theorem dX4_update_43 : decode cX4_update 43 = .ok (.iconst 1, 1) := by decide +kernel
theorem dX4_update_44 : decode cX4_update 44 = .ok (.goto 4, 3) := by decide +kernel
theorem dX4_update_47 : decode cX4_update 47 = .ok (.iconst 0, 1) := by decide +kernel
theorem dX4_update_48 : decode cX4_update 48 = .ok (.invokestatic 78, 3) := by decide +kernel
theorem dX4_update_51 : decode cX4_update 51 = .ok (.aload_n 0, 1) := by decide +kernel
theorem dX4_update_52 : decode cX4_update 52 = .ok (.getfield 53, 3) := by decide +kernel
theorem dX4_update_55 : decode cX4_update 55 = .ok (.iload 5, 2) := by decide +kernel
theorem dX4_update_57 : decode cX4_update 57 = .ok (.iload_n 3, 1) := by decide +kernel
theorem dX4_update_58 : decode cX4_update 58 = .ok (.invokevirtual 160, 3) := by decide +kernel
theorem dX4_update_61 : decode cX4_update 61 = .ok (.istore 6, 2) := by decide +kernel
theorem dX4_update_63 : decode cX4_update 63 = .ok (.aload_n 0, 1) := by decide +kernel
theorem dX4_update_64 : decode cX4_update 64 = .ok (.getfield 57, 3) := by decide +kernel
theorem dX4_update_67 : decode cX4_update 67 = .ok (.aload_n 0, 1) := by decide +kernel
theorem dX4_update_68 : decode cX4_update 68 = .ok (.getfield 53, 3) := by decide +kernel
theorem dX4_update_71 : decode cX4_update 71 = .ok (.invokevirtual 125, 3) := by decide +kernel
theorem dX4_update_74 : decode cX4_update 74 = .ok (.aload_n 0, 1) := by decide +kernel
theorem dX4_update_75 : decode cX4_update 75 = .ok (.getfield 57, 3) := by decide +kernel
theorem dX4_update_78 : decode cX4_update 78 = .ok (.iload 5, 2) := by decide +kernel
theorem dX4_update_80 : decode cX4_update 80 = .ok (.iload_n 3, 1) := by decide +kernel
theorem dX4_update_81 : decode cX4_update 81 = .ok (.iload 4, 2) := by decide +kernel
theorem dX4_update_83 : decode cX4_update 83 = .ok (.invokevirtual 132, 3) := by decide +kernel
theorem dX4_update_86 : decode cX4_update 86 = .ok (.aload_n 0, 1) := by decide +kernel
theorem dX4_update_87 : decode cX4_update 87 = .ok (.iload_n 3, 1) := by decide +kernel
theorem dX4_update_88 : decode cX4_update 88 = .ok (.ifCond .ne 21, 3) := by decide +kernel
theorem dX4_update_91 : decode cX4_update 91 = .ok (.iload 4, 2) := by decide +kernel
theorem dX4_update_93 : decode cX4_update 93 = .ok (.iload 6, 2) := by decide +kernel
theorem dX4_update_95 : decode cX4_update 95 = .ok (.if_icmp .eq 14, 3) := by decide +kernel
theorem dX4_update_98 : decode cX4_update 98 = .ok (.aload_n 0, 1) := by decide +kernel
theorem dX4_update_99 : decode cX4_update 99 = .ok (.iload 5, 2) := by decide +kernel
theorem dX4_update_101 : decode cX4_update 101 = .ok (.iload 4, 2) := by decide +kernel
theorem dX4_update_103 : decode cX4_update 103 = .ok (.invokevirtual 163, 3) := by decide +kernel
theorem dX4_update_106 : decode cX4_update 106 = .ok (.goto 4, 3) := by decide +kernel
theorem dX4_update_109 : decode cX4_update 109 = .ok (.iconst (-1), 1) := by decide +kernel
theorem dX4_update_110 : decode cX4_update 110 = .ok (.invokevirtual 136, 3) := by decide +kernel
theorem dX4_update_113 : decode cX4_update 113 = .ok (.iload 6, 2) := by decide +kernel
theorem dX4_update_115 : decode cX4_update 115 = .ok (.ireturn, 1) := by decide +kernel
set_option maxRecDepth 20000 in
theorem ggX4_shift_X4_isCellColumn : GoodIn wsX4_shift wsX4_isCellColumn := goodIn_r _ [7, 8, 9, 10, 6, 11, 12, 13, 14, 15, 16, 17, 134, 135, 136, 137, 138, 139, 140, 141, 142, 143, 144, 145, 146, 147, 148, 149] (by decide +kernel) (by decide +kernel)
set_option maxRecDepth 20000 in
theorem gX4_shift_X4_isCellColumn : GoodIn wsX4_shift (wsV RX4 81 RX4 yX4_isCellColumn wsX4_isCellColumn) := goodIn_app (goodIn_of _ (by decide +kernel)) ggX4_shift_X4_isCellColumn
set_option maxRecDepth 20000 in
theorem ggX4_shift_X4_needArgument : GoodIn wsX4_shift wsX4_needArgument := goodIn_ca (goodIn_r _ [20, 21, 22] (by decide +kernel) (by decide +kernel)) (goodIn_sub (fun _ h => List.mem_cons_of_mem _ (List.mem_append_left _ (List.mem_append_right _ h))) (by decide +kernel))
set_option maxRecDepth 20000 in
theorem gX4_shift_X4_needArgument : GoodIn wsX4_shift (va_wsS RX4 74 yX4_needArgument wsX4_needArgument) := goodIn_app (goodIn_of _ (by decide +kernel)) ggX4_shift_X4_needArgument
set_option maxRecDepth 20000 in
theorem ggX4_shift_X2_become : GoodIn wsX4_shift wsX2_become := goodIn_r _ [27, 28, 29, 30, 31, 32, 33, 150, 151] (by decide +kernel) (by decide +kernel)
set_option maxRecDepth 20000 in
theorem gX4_shift_X2_become : GoodIn wsX4_shift (wsV RX4 125 RX2 yX2_become wsX2_become) := goodIn_app (goodIn_of _ (by decide +kernel)) ggX4_shift_X2_become
set_option maxRecDepth 20000 in
theorem ggX4_shift_X2_holds : GoodIn wsX4_shift wsX2_holds := goodIn_r _ [37, 28, 150, 151] (by decide +kernel) (by decide +kernel)
set_option maxRecDepth 20000 in
theorem gX4_shift_X2_holds : GoodIn wsX4_shift (wsV RX4 166 RX2 yX2_holds wsX2_holds) := goodIn_app (goodIn_of _ (by decide +kernel)) ggX4_shift_X2_holds
set_option maxRecDepth 20000 in
theorem ggX4_shift_X2_at : GoodIn wsX4_shift wsX2_at := goodIn_r _ [41, 33, 150, 151] (by decide +kernel) (by decide +kernel)
set_option maxRecDepth 20000 in
theorem gX4_shift_X2_at : GoodIn wsX4_shift (wsV RX4 160 RX2 yX2_at wsX2_at) := goodIn_app (goodIn_of _ (by decide +kernel)) ggX4_shift_X2_at
set_option maxRecDepth 20000 in
theorem ggX4_shift_X2_put : GoodIn wsX4_shift wsX2_put := goodIn_r _ [45, 33, 150, 151] (by decide +kernel) (by decide +kernel)
set_option maxRecDepth 20000 in
theorem gX4_shift_X2_put : GoodIn wsX4_shift (wsV RX4 132 RX2 yX2_put wsX2_put) := goodIn_app (goodIn_of _ (by decide +kernel)) ggX4_shift_X2_put
set_option maxRecDepth 20000 in
theorem ggX4_shift_X4_settle : GoodIn wsX4_shift wsX4_settle := goodIn_ca (goodIn_r _ [49, 1, 2, 50, 51, 52, 6, 53, 17, 54, 55, 56, 57, 58, 59, 60, 61, 62, 26, 63, 28, 64, 39, 40, 41, 33, 65, 66, 67, 68, 69, 70, 71, 72, 73, 74, 75, 76, 77, 78, 79, 80, 81, 82, 83, 84, 85, 86, 87, 88, 35, 36, 37, 89, 90, 91, 92, 93, 94, 95, 96, 97, 98, 99, 100, 101, 102, 103, 104, 105, 106, 107, 108, 109, 110, 111, 112, 113, 114, 115, 116, 117, 118, 119, 120, 121, 122, 123, 124, 125, 126, 127, 128, 129, 23, 24, 25, 27, 29, 30, 31, 32, 134, 135, 136, 137, 138, 139, 140, 141, 142, 143, 144, 145, 146, 147, 148, 149, 150, 151, 152, 153, 154, 155, 156, 157, 158, 159, 160] (by decide +kernel) (by decide +kernel)) (goodIn_sub (fun _ h => List.mem_cons_of_mem _ (List.mem_append_right _ h)) (by decide +kernel))
set_option maxRecDepth 20000 in
theorem gX4_shift_X4_settle : GoodIn wsX4_shift (wsV RX4 136 RX4 yX4_settle wsX4_settle) := goodIn_app (goodIn_of _ (by decide +kernel)) ggX4_shift_X4_settle
set_option maxRecDepth 20000 in
theorem ggX4_shift_X2_size : GoodIn wsX4_shift wsX2_size := goodIn_r _ [133, 28, 150, 151] (by decide +kernel) (by decide +kernel)
set_option maxRecDepth 20000 in
theorem gX4_shift_X2_size : GoodIn wsX4_shift (wsV RX4 169 RX2 yX2_size wsX2_size) := goodIn_app (goodIn_of _ (by decide +kernel)) ggX4_shift_X2_size
theorem dX4_shift_0 : decode cX4_shift 0 = .ok (.aload_n 0, 1) := by decide +kernel
theorem dX4_shift_1 : decode cX4_shift 1 = .ok (.iload_n 1, 1) := by decide +kernel
theorem dX4_shift_2 : decode cX4_shift 2 = .ok (.iload_n 2, 1) := by decide +kernel
theorem dX4_shift_3 : decode cX4_shift 3 = .ok (.invokevirtual 81, 3) := by decide +kernel
theorem dX4_shift_6 : decode cX4_shift 6 = .ok (.invokestatic 74, 3) := by decide +kernel
theorem dX4_shift_9 : decode cX4_shift 9 = .ok (.aload_n 0, 1) := by decide +kernel
theorem dX4_shift_10 : decode cX4_shift 10 = .ok (.getfield 57, 3) := by decide +kernel
theorem dX4_shift_13 : decode cX4_shift 13 = .ok (.aload_n 0, 1) := by decide +kernel
theorem dX4_shift_14 : decode cX4_shift 14 = .ok (.getfield 53, 3) := by decide +kernel
theorem dX4_shift_17 : decode cX4_shift 17 = .ok (.invokevirtual 125, 3) := by decide +kernel
theorem dX4_shift_20 : decode cX4_shift 20 = .ok (.iconst 0, 1) := by decide +kernel
theorem dX4_shift_21 : decode cX4_shift 21 = .ok (.istore 4, 2) := by decide +kernel
theorem dX4_shift_23 : decode cX4_shift 23 = .ok (.iload 4, 2) := by decide +kernel
theorem dX4_shift_25 : decode cX4_shift 25 = .ok (.bipush 24, 2) := by decide +kernel
theorem dX4_shift_27 : decode cX4_shift 27 = .ok (.if_icmp .ge 44, 3) := by decide +kernel
theorem dX4_shift_30 : decode cX4_shift 30 = .ok (.aload_n 0, 1) := by decide +kernel
theorem dX4_shift_31 : decode cX4_shift 31 = .ok (.getfield 57, 3) := by decide +kernel
theorem dX4_shift_34 : decode cX4_shift 34 = .ok (.iload 4, 2) := by decide +kernel
theorem dX4_shift_36 : decode cX4_shift 36 = .ok (.iload_n 1, 1) := by decide +kernel
theorem dX4_shift_37 : decode cX4_shift 37 = .ok (.invokevirtual 166, 3) := by decide +kernel
theorem dX4_shift_40 : decode cX4_shift 40 = .ok (.ifCond .eq 25, 3) := by decide +kernel
theorem dX4_shift_43 : decode cX4_shift 43 = .ok (.aload_n 0, 1) := by decide +kernel
theorem dX4_shift_44 : decode cX4_shift 44 = .ok (.getfield 57, 3) := by decide +kernel
theorem dX4_shift_47 : decode cX4_shift 47 = .ok (.iload 4, 2) := by decide +kernel
theorem dX4_shift_49 : decode cX4_shift 49 = .ok (.iload_n 2, 1) := by decide +kernel
theorem dX4_shift_50 : decode cX4_shift 50 = .ok (.aload_n 0, 1) := by decide +kernel
theorem dX4_shift_51 : decode cX4_shift 51 = .ok (.getfield 57, 3) := by decide +kernel
theorem dX4_shift_54 : decode cX4_shift 54 = .ok (.iload 4, 2) := by decide +kernel
theorem dX4_shift_56 : decode cX4_shift 56 = .ok (.iload_n 2, 1) := by decide +kernel
theorem dX4_shift_57 : decode cX4_shift 57 = .ok (.invokevirtual 160, 3) := by decide +kernel
theorem dX4_shift_60 : decode cX4_shift 60 = .ok (.iload_n 3, 1) := by decide +kernel
theorem dX4_shift_61 : decode cX4_shift 61 = .ok (.iadd, 1) := by decide +kernel
theorem dX4_shift_62 : decode cX4_shift 62 = .ok (.invokevirtual 132, 3) := by decide +kernel
theorem dX4_shift_65 : decode cX4_shift 65 = .ok (.iinc 4 1, 3) := by decide +kernel
theorem dX4_shift_68 : decode cX4_shift 68 = .ok (.goto (-45), 3) := by decide +kernel
theorem dX4_shift_71 : decode cX4_shift 71 = .ok (.aload_n 0, 1) := by decide +kernel
theorem dX4_shift_72 : decode cX4_shift 72 = .ok (.iconst (-1), 1) := by decide +kernel
theorem dX4_shift_73 : decode cX4_shift 73 = .ok (.invokevirtual 136, 3) := by decide +kernel
theorem dX4_shift_76 : decode cX4_shift 76 = .ok (.aload_n 0, 1) := by decide +kernel
theorem dX4_shift_77 : decode cX4_shift 77 = .ok (.getfield 53, 3) := by decide +kernel
theorem dX4_shift_80 : decode cX4_shift 80 = .ok (.iload_n 1, 1) := by decide +kernel
theorem dX4_shift_81 : decode cX4_shift 81 = .ok (.invokevirtual 169, 3) := by decide +kernel
theorem dX4_shift_84 : decode cX4_shift 84 = .ok (.ireturn, 1) := by decide +kernel
set_option maxRecDepth 20000 in
theorem ggX4_keep_X4_needElement : GoodIn wsX4_keep wsX4_needElement := goodIn_ca (goodIn_r _ [7, 8, 9] (by decide +kernel) (by decide +kernel)) (goodIn_sub (fun _ h => List.mem_cons_of_mem _ (List.mem_append_right _ h)) (by decide +kernel))
set_option maxRecDepth 20000 in
theorem gX4_keep_X4_needElement : GoodIn wsX4_keep (va_wsS RX4 78 yX4_needElement wsX4_needElement) := goodIn_app (goodIn_of _ (by decide +kernel)) ggX4_keep_X4_needElement
set_option maxRecDepth 20000 in
theorem ggX4_keep_X2_become : GoodIn wsX4_keep wsX2_become := goodIn_r _ [14, 15, 16, 17, 18, 19, 20, 37, 38] (by decide +kernel) (by decide +kernel)
set_option maxRecDepth 20000 in
theorem gX4_keep_X2_become : GoodIn wsX4_keep (wsV RX4 125 RX2 yX2_become wsX2_become) := goodIn_app (goodIn_of _ (by decide +kernel)) ggX4_keep_X2_become
theorem dX4_keep_0 : decode cX4_keep 0 = .ok (.aload_n 0, 1) := by decide +kernel
theorem dX4_keep_1 : decode cX4_keep 1 = .ok (.getfield 64, 3) := by decide +kernel
theorem dX4_keep_4 : decode cX4_keep 4 = .ok (.iconst 4, 1) := by decide +kernel
theorem dX4_keep_5 : decode cX4_keep 5 = .ok (.if_icmp .ge 7, 3) := by decide +kernel
theorem dX4_keep_8 : decode cX4_keep 8 = .ok (.iconst 1, 1) := by decide +kernel
theorem dX4_keep_9 : decode cX4_keep 9 = .ok (.goto 4, 3) := by decide +kernel
theorem dX4_keep_12 : decode cX4_keep 12 = .ok (.iconst 0, 1) := by decide +kernel
theorem dX4_keep_13 : decode cX4_keep 13 = .ok (.invokestatic 78, 3) := by decide +kernel
theorem dX4_keep_16 : decode cX4_keep 16 = .ok (.aload_n 0, 1) := by decide +kernel
theorem dX4_keep_17 : decode cX4_keep 17 = .ok (.getfield 60, 3) := by decide +kernel
theorem dX4_keep_20 : decode cX4_keep 20 = .ok (.aload_n 0, 1) := by decide +kernel
theorem dX4_keep_21 : decode cX4_keep 21 = .ok (.getfield 64, 3) := by decide +kernel
theorem dX4_keep_24 : decode cX4_keep 24 = .ok (.aaload, 1) := by decide +kernel
theorem dX4_keep_25 : decode cX4_keep 25 = .ok (.aload_n 0, 1) := by decide +kernel
theorem dX4_keep_26 : decode cX4_keep 26 = .ok (.getfield 53, 3) := by decide +kernel
theorem dX4_keep_29 : decode cX4_keep 29 = .ok (.invokevirtual 125, 3) := by decide +kernel
theorem dX4_keep_32 : decode cX4_keep 32 = .ok (.aload_n 0, 1) := by decide +kernel
theorem dX4_keep_33 : decode cX4_keep 33 = .ok (.dup, 1) := by decide +kernel
theorem dX4_keep_34 : decode cX4_keep 34 = .ok (.getfield 64, 3) := by decide +kernel
theorem dX4_keep_37 : decode cX4_keep 37 = .ok (.iconst 1, 1) := by decide +kernel
theorem dX4_keep_38 : decode cX4_keep 38 = .ok (.iadd, 1) := by decide +kernel
theorem dX4_keep_39 : decode cX4_keep 39 = .ok (.putfield 64, 3) := by decide +kernel
theorem dX4_keep_42 : decode cX4_keep 42 = .ok (.aload_n 0, 1) := by decide +kernel
theorem dX4_keep_43 : decode cX4_keep 43 = .ok (.getfield 64, 3) := by decide +kernel
theorem dX4_keep_46 : decode cX4_keep 46 = .ok (.ireturn, 1) := by decide +kernel
set_option maxRecDepth 20000 in
theorem ggX4_back_X4_needElement : GoodIn wsX4_back wsX4_needElement := goodIn_ca (goodIn_r _ [7, 8, 9] (by decide +kernel) (by decide +kernel)) (goodIn_sub (fun _ h => List.mem_cons_of_mem _ (List.mem_append_left _ (List.mem_append_right _ h))) (by decide +kernel))
set_option maxRecDepth 20000 in
theorem gX4_back_X4_needElement : GoodIn wsX4_back (va_wsS RX4 78 yX4_needElement wsX4_needElement) := goodIn_app (goodIn_of _ (by decide +kernel)) ggX4_back_X4_needElement
set_option maxRecDepth 20000 in
theorem ggX4_back_X4_whyBroken : GoodIn wsX4_back wsX4_whyBroken := goodIn_r _ [13, 14, 15, 16, 17, 18, 19, 20, 21, 22, 23, 24, 25, 26, 27, 28, 29, 30, 31, 32, 33, 34, 35, 36, 37, 38, 39, 40, 41, 42, 43, 44, 45, 46, 47, 48, 49, 50, 51, 52, 53, 54, 55, 56, 57, 58, 59, 60, 61, 62, 63, 64, 65, 66, 67, 68, 69, 70, 71, 72, 73, 74, 75, 76, 77, 78, 79, 80, 81, 82, 83, 84, 85, 86, 87, 88, 89, 90, 91, 92, 108, 109, 110, 111, 112, 113, 114, 115, 116, 117, 118, 119, 120, 121, 122, 123, 124, 125, 126, 127, 128, 129, 130, 131, 132, 133, 134] (by decide +kernel) (by decide +kernel)
set_option maxRecDepth 20000 in
theorem gX4_back_X4_whyBroken : GoodIn wsX4_back (wsV RX4 173 RX4 yX4_whyBroken wsX4_whyBroken) := goodIn_app (goodIn_of _ (by decide +kernel)) ggX4_back_X4_whyBroken
set_option maxRecDepth 20000 in
theorem ggX4_back_X4_refuseIf : GoodIn wsX4_back wsX4_refuseIf := goodIn_ca (goodIn_r _ [96, 97, 98, 99, 108, 109, 110, 111, 112, 113, 114, 115, 116, 117, 118, 119, 120, 121, 122, 123] (by decide +kernel) (by decide +kernel)) (goodIn_sub (fun _ h => List.mem_cons_of_mem _ (List.mem_append_right _ h)) (by decide +kernel))
set_option maxRecDepth 20000 in
theorem gX4_back_X4_refuseIf : GoodIn wsX4_back (wsV RX4 96 RX4 yX4_refuseIf wsX4_refuseIf) := goodIn_app (goodIn_of _ (by decide +kernel)) ggX4_back_X4_refuseIf
set_option maxRecDepth 20000 in
theorem ggX4_back_X2_become : GoodIn wsX4_back wsX2_become := goodIn_r _ [103, 26, 104, 105, 106, 107, 31, 124, 125] (by decide +kernel) (by decide +kernel)
set_option maxRecDepth 20000 in
theorem gX4_back_X2_become : GoodIn wsX4_back (wsV RX4 125 RX2 yX2_become wsX2_become) := goodIn_app (goodIn_of _ (by decide +kernel)) ggX4_back_X2_become
theorem dX4_back_0 : decode cX4_back 0 = .ok (.aload_n 0, 1) := by decide +kernel
theorem dX4_back_1 : decode cX4_back 1 = .ok (.getfield 64, 3) := by decide +kernel
theorem dX4_back_4 : decode cX4_back 4 = .ok (.ifCond .le 7, 3) := by decide +kernel
theorem dX4_back_7 : decode cX4_back 7 = .ok (.iconst 1, 1) := by decide +kernel
theorem dX4_back_8 : decode cX4_back 8 = .ok (.goto 4, 3) := by decide +kernel
theorem dX4_back_11 : decode cX4_back 11 = .ok (.iconst 0, 1) := by decide +kernel
theorem dX4_back_12 : decode cX4_back 12 = .ok (.invokestatic 78, 3) := by decide +kernel
theorem dX4_back_15 : decode cX4_back 15 = .ok (.aload_n 0, 1) := by decide +kernel
theorem dX4_back_16 : decode cX4_back 16 = .ok (.getfield 60, 3) := by decide +kernel
theorem dX4_back_19 : decode cX4_back 19 = .ok (.aload_n 0, 1) := by decide +kernel
theorem dX4_back_20 : decode cX4_back 20 = .ok (.getfield 64, 3) := by decide +kernel
theorem dX4_back_23 : decode cX4_back 23 = .ok (.iconst 1, 1) := by decide +kernel
theorem dX4_back_24 : decode cX4_back 24 = .ok (.isub, 1) := by decide +kernel
theorem dX4_back_25 : decode cX4_back 25 = .ok (.aaload, 1) := by decide +kernel
theorem dX4_back_26 : decode cX4_back 26 = .ok (.astore_n 1, 1) := by decide +kernel
theorem dX4_back_27 : decode cX4_back 27 = .ok (.aload_n 0, 1) := by decide +kernel
theorem dX4_back_28 : decode cX4_back 28 = .ok (.aload_n 1, 1) := by decide +kernel
theorem dX4_back_29 : decode cX4_back 29 = .ok (.invokevirtual 173, 3) := by decide +kernel
theorem dX4_back_32 : decode cX4_back 32 = .ok (.istore_n 2, 1) := by decide +kernel
theorem dX4_back_33 : decode cX4_back 33 = .ok (.aload_n 0, 1) := by decide +kernel
theorem dX4_back_34 : decode cX4_back 34 = .ok (.iload_n 2, 1) := by decide +kernel
theorem dX4_back_35 : decode cX4_back 35 = .ok (.ifCond .eq 7, 3) := by decide +kernel
theorem dX4_back_38 : decode cX4_back 38 = .ok (.iconst 1, 1) := by decide +kernel
theorem dX4_back_39 : decode cX4_back 39 = .ok (.goto 4, 3) := by decide +kernel
theorem dX4_back_42 : decode cX4_back 42 = .ok (.iconst 0, 1) := by decide +kernel
theorem dX4_back_43 : decode cX4_back 43 = .ok (.iload_n 2, 1) := by decide +kernel
theorem dX4_back_44 : decode cX4_back 44 = .ok (.invokevirtual 96, 3) := by decide +kernel
theorem dX4_back_47 : decode cX4_back 47 = .ok (.aload_n 0, 1) := by decide +kernel
theorem dX4_back_48 : decode cX4_back 48 = .ok (.getfield 53, 3) := by decide +kernel
theorem dX4_back_51 : decode cX4_back 51 = .ok (.aload_n 1, 1) := by decide +kernel
theorem dX4_back_52 : decode cX4_back 52 = .ok (.invokevirtual 125, 3) := by decide +kernel
theorem dX4_back_55 : decode cX4_back 55 = .ok (.aload_n 0, 1) := by decide +kernel
theorem dX4_back_56 : decode cX4_back 56 = .ok (.dup, 1) := by decide +kernel
theorem dX4_back_57 : decode cX4_back 57 = .ok (.getfield 64, 3) := by decide +kernel
theorem dX4_back_60 : decode cX4_back 60 = .ok (.iconst 1, 1) := by decide +kernel
theorem dX4_back_61 : decode cX4_back 61 = .ok (.isub, 1) := by decide +kernel
theorem dX4_back_62 : decode cX4_back 62 = .ok (.putfield 64, 3) := by decide +kernel
theorem dX4_back_65 : decode cX4_back 65 = .ok (.aload_n 0, 1) := by decide +kernel
theorem dX4_back_66 : decode cX4_back 66 = .ok (.getfield 64, 3) := by decide +kernel
theorem dX4_back_69 : decode cX4_back 69 = .ok (.ireturn, 1) := by decide +kernel
set_option maxRecDepth 20000 in
theorem ggX4_has_X4_isTable : GoodIn wsX4_has wsX4_isTable := goodIn_r _ [6, 7, 24, 25, 26, 27, 28, 29, 30, 31, 32, 33, 34, 35, 36, 37, 38, 39] (by decide +kernel) (by decide +kernel)
set_option maxRecDepth 20000 in
theorem gX4_has_X4_isTable : GoodIn wsX4_has (wsV RX4 85 RX4 yX4_isTable wsX4_isTable) := goodIn_app (goodIn_of _ (by decide +kernel)) ggX4_has_X4_isTable
set_option maxRecDepth 20000 in
theorem ggX4_has_X4_needArgument : GoodIn wsX4_has wsX4_needArgument := goodIn_ca (goodIn_r _ [10, 11, 12] (by decide +kernel) (by decide +kernel)) (goodIn_sub (fun _ h => List.mem_cons_of_mem _ (List.mem_append_right _ h)) (by decide +kernel))
set_option maxRecDepth 20000 in
theorem gX4_has_X4_needArgument : GoodIn wsX4_has (va_wsS RX4 74 yX4_needArgument wsX4_needArgument) := goodIn_app (goodIn_of _ (by decide +kernel)) ggX4_has_X4_needArgument
set_option maxRecDepth 20000 in
theorem ggX4_has_X2_find : GoodIn wsX4_has wsX2_find := goodIn_r _ [17, 18, 19, 20, 21, 16, 22, 23, 40, 41] (by decide +kernel) (by decide +kernel)
set_option maxRecDepth 20000 in
theorem gX4_has_X2_find : GoodIn wsX4_has (wsV RX4 156 RX2 yX2_find wsX2_find) := goodIn_app (goodIn_of _ (by decide +kernel)) ggX4_has_X2_find
theorem dX4_has_0 : decode cX4_has 0 = .ok (.aload_n 0, 1) := by decide +kernel
theorem dX4_has_1 : decode cX4_has 1 = .ok (.iload_n 1, 1) := by decide +kernel
theorem dX4_has_2 : decode cX4_has 2 = .ok (.invokevirtual 85, 3) := by decide +kernel
theorem dX4_has_5 : decode cX4_has 5 = .ok (.invokestatic 74, 3) := by decide +kernel
theorem dX4_has_8 : decode cX4_has 8 = .ok (.aload_n 0, 1) := by decide +kernel
theorem dX4_has_9 : decode cX4_has 9 = .ok (.getfield 53, 3) := by decide +kernel
theorem dX4_has_12 : decode cX4_has 12 = .ok (.iload_n 1, 1) := by decide +kernel
theorem dX4_has_13 : decode cX4_has 13 = .ok (.iload_n 2, 1) := by decide +kernel
theorem dX4_has_14 : decode cX4_has 14 = .ok (.invokevirtual 156, 3) := by decide +kernel
theorem dX4_has_17 : decode cX4_has 17 = .ok (.iconst (-1), 1) := by decide +kernel
theorem dX4_has_18 : decode cX4_has 18 = .ok (.if_icmp .eq 7, 3) := by decide +kernel
theorem dX4_has_21 : decode cX4_has 21 = .ok (.iconst 1, 1) := by decide +kernel
theorem dX4_has_22 : decode cX4_has 22 = .ok (.goto 4, 3) := by decide +kernel
theorem dX4_has_25 : decode cX4_has 25 = .ok (.iconst 0, 1) := by decide +kernel
theorem dX4_has_26 : decode cX4_has 26 = .ok (.ireturn, 1) := by decide +kernel
set_option maxRecDepth 20000 in
theorem ggX4_cell_X4_isColumn : GoodIn wsX4_cell wsX4_isColumn := goodIn_r _ [6, 7, 8, 9, 10, 5, 11, 12, 35, 36, 37, 38, 39, 40, 41, 42, 43, 44, 45, 46, 47, 48, 49, 50] (by decide +kernel) (by decide +kernel)
set_option maxRecDepth 20000 in
theorem gX4_cell_X4_isColumn : GoodIn wsX4_cell (wsV RX4 140 RX4 yX4_isColumn wsX4_isColumn) := goodIn_app (goodIn_of _ (by decide +kernel)) ggX4_cell_X4_isColumn
set_option maxRecDepth 20000 in
theorem ggX4_cell_X4_needArgument : GoodIn wsX4_cell wsX4_needArgument := goodIn_ca (goodIn_r _ [15, 16, 17] (by decide +kernel) (by decide +kernel)) (goodIn_sub (fun _ h => List.mem_cons_of_mem _ (List.mem_append_left _ (List.mem_append_right _ h))) (by decide +kernel))
set_option maxRecDepth 20000 in
theorem gX4_cell_X4_needArgument : GoodIn wsX4_cell (va_wsS RX4 74 yX4_needArgument wsX4_needArgument) := goodIn_app (goodIn_of _ (by decide +kernel)) ggX4_cell_X4_needArgument
set_option maxRecDepth 20000 in
theorem ggX4_cell_X2_find : GoodIn wsX4_cell wsX2_find := goodIn_r _ [22, 23, 24, 25, 26, 21, 27, 28, 51, 52] (by decide +kernel) (by decide +kernel)
set_option maxRecDepth 20000 in
theorem gX4_cell_X2_find : GoodIn wsX4_cell (wsV RX4 156 RX2 yX2_find wsX2_find) := goodIn_app (goodIn_of _ (by decide +kernel)) ggX4_cell_X2_find
set_option maxRecDepth 20000 in
theorem ggX4_cell_X4_needElement : GoodIn wsX4_cell wsX4_needElement := goodIn_ca (goodIn_r _ [31, 32, 33] (by decide +kernel) (by decide +kernel)) (goodIn_sub (fun _ h => List.mem_cons_of_mem _ (List.mem_append_right _ h)) (by decide +kernel))
set_option maxRecDepth 20000 in
theorem gX4_cell_X4_needElement : GoodIn wsX4_cell (va_wsS RX4 78 yX4_needElement wsX4_needElement) := goodIn_app (goodIn_of _ (by decide +kernel)) ggX4_cell_X4_needElement
set_option maxRecDepth 20000 in
theorem ggX4_cell_X2_at : GoodIn wsX4_cell wsX2_at := goodIn_r _ [27, 28, 51, 52] (by decide +kernel) (by decide +kernel)
set_option maxRecDepth 20000 in
theorem gX4_cell_X2_at : GoodIn wsX4_cell (wsV RX4 160 RX2 yX2_at wsX2_at) := goodIn_app (goodIn_of _ (by decide +kernel)) ggX4_cell_X2_at
theorem dX4_cell_0 : decode cX4_cell 0 = .ok (.aload_n 0, 1) := by decide +kernel
theorem dX4_cell_1 : decode cX4_cell 1 = .ok (.iload_n 1, 1) := by decide +kernel
theorem dX4_cell_2 : decode cX4_cell 2 = .ok (.iload_n 3, 1) := by decide +kernel
theorem dX4_cell_3 : decode cX4_cell 3 = .ok (.invokevirtual 140, 3) := by decide +kernel
theorem dX4_cell_6 : decode cX4_cell 6 = .ok (.invokestatic 74, 3) := by decide +kernel
theorem dX4_cell_9 : decode cX4_cell 9 = .ok (.aload_n 0, 1) := by decide +kernel
theorem dX4_cell_10 : decode cX4_cell 10 = .ok (.getfield 53, 3) := by decide +kernel
theorem dX4_cell_13 : decode cX4_cell 13 = .ok (.iload_n 1, 1) := by decide +kernel
theorem dX4_cell_14 : decode cX4_cell 14 = .ok (.iload_n 2, 1) := by decide +kernel
theorem dX4_cell_15 : decode cX4_cell 15 = .ok (.invokevirtual 156, 3) := by decide +kernel
theorem dX4_cell_18 : decode cX4_cell 18 = .ok (.istore 4, 2) := by decide +kernel
theorem dX4_cell_20 : decode cX4_cell 20 = .ok (.iload 4, 2) := by decide +kernel
theorem dX4_cell_22 : decode cX4_cell 22 = .ok (.iconst (-1), 1) := by decide +kernel
theorem dX4_cell_23 : decode cX4_cell 23 = .ok (.if_icmp .eq 7, 3) := by decide +kernel
theorem dX4_cell_26 : decode cX4_cell 26 = .ok (.iconst 1, 1) := by decide +kernel
theorem dX4_cell_27 : decode cX4_cell 27 = .ok (.goto 4, 3) := by decide +kernel
theorem dX4_cell_30 : decode cX4_cell 30 = .ok (.iconst 0, 1) := by decide +kernel
theorem dX4_cell_31 : decode cX4_cell 31 = .ok (.invokestatic 78, 3) := by decide +kernel
theorem dX4_cell_34 : decode cX4_cell 34 = .ok (.aload_n 0, 1) := by decide +kernel
theorem dX4_cell_35 : decode cX4_cell 35 = .ok (.getfield 53, 3) := by decide +kernel
theorem dX4_cell_38 : decode cX4_cell 38 = .ok (.iload 4, 2) := by decide +kernel
theorem dX4_cell_40 : decode cX4_cell 40 = .ok (.iload_n 3, 1) := by decide +kernel
theorem dX4_cell_41 : decode cX4_cell 41 = .ok (.invokevirtual 160, 3) := by decide +kernel
theorem dX4_cell_44 : decode cX4_cell 44 = .ok (.ireturn, 1) := by decide +kernel
set_option maxRecDepth 20000 in
theorem ggX4_key_X4_isTable : GoodIn wsX4_key wsX4_isTable := goodIn_r _ [8, 9, 31, 32, 33, 34, 35, 36, 37, 38, 39, 40, 41, 42, 43, 44, 45, 46] (by decide +kernel) (by decide +kernel)
set_option maxRecDepth 20000 in
theorem gX4_key_X4_isTable : GoodIn wsX4_key (wsV RX4 85 RX4 yX4_isTable wsX4_isTable) := goodIn_app (goodIn_of _ (by decide +kernel)) ggX4_key_X4_isTable
set_option maxRecDepth 20000 in
theorem ggX4_key_X4_needArgument : GoodIn wsX4_key wsX4_needArgument := goodIn_ca (goodIn_r _ [12, 13, 14] (by decide +kernel) (by decide +kernel)) (goodIn_sub (fun _ h => List.mem_cons_of_mem _ (List.mem_append_right _ h)) (by decide +kernel))
set_option maxRecDepth 20000 in
theorem gX4_key_X4_needArgument : GoodIn wsX4_key (va_wsS RX4 74 yX4_needArgument wsX4_needArgument) := goodIn_app (goodIn_of _ (by decide +kernel)) ggX4_key_X4_needArgument
set_option maxRecDepth 20000 in
theorem ggX4_key_X2_placeOfRank : GoodIn wsX4_key wsX2_placeOfRank := goodIn_r _ [19, 20, 21, 22, 23, 18, 24, 25, 26, 27, 28, 29, 47, 48] (by decide +kernel) (by decide +kernel)
set_option maxRecDepth 20000 in
theorem gX4_key_X2_placeOfRank : GoodIn wsX4_key (wsV RX4 177 RX2 yX2_placeOfRank wsX2_placeOfRank) := goodIn_app (goodIn_of _ (by decide +kernel)) ggX4_key_X2_placeOfRank
set_option maxRecDepth 20000 in
theorem ggX4_key_X2_at : GoodIn wsX4_key wsX2_at := goodIn_r _ [24, 25, 47, 48] (by decide +kernel) (by decide +kernel)
set_option maxRecDepth 20000 in
theorem gX4_key_X2_at : GoodIn wsX4_key (wsV RX4 160 RX2 yX2_at wsX2_at) := goodIn_app (goodIn_of _ (by decide +kernel)) ggX4_key_X2_at
theorem dX4_key_0 : decode cX4_key 0 = .ok (.aload_n 0, 1) := by decide +kernel
theorem dX4_key_1 : decode cX4_key 1 = .ok (.iload_n 1, 1) := by decide +kernel
theorem dX4_key_2 : decode cX4_key 2 = .ok (.invokevirtual 85, 3) := by decide +kernel
theorem dX4_key_5 : decode cX4_key 5 = .ok (.invokestatic 74, 3) := by decide +kernel
theorem dX4_key_8 : decode cX4_key 8 = .ok (.aload_n 0, 1) := by decide +kernel
theorem dX4_key_9 : decode cX4_key 9 = .ok (.getfield 53, 3) := by decide +kernel
theorem dX4_key_12 : decode cX4_key 12 = .ok (.iload_n 1, 1) := by decide +kernel
theorem dX4_key_13 : decode cX4_key 13 = .ok (.iload_n 2, 1) := by decide +kernel
theorem dX4_key_14 : decode cX4_key 14 = .ok (.invokevirtual 177, 3) := by decide +kernel
theorem dX4_key_17 : decode cX4_key 17 = .ok (.istore_n 3, 1) := by decide +kernel
theorem dX4_key_18 : decode cX4_key 18 = .ok (.iload_n 3, 1) := by decide +kernel
theorem dX4_key_19 : decode cX4_key 19 = .ok (.iconst (-1), 1) := by decide +kernel
theorem dX4_key_20 : decode cX4_key 20 = .ok (.if_icmp .ne 11, 3) := by decide +kernel
theorem dX4_key_23 : decode cX4_key 23 = .ok (.new 180, 3) := by decide +kernel
theorem dX4_key_26 : decode cX4_key 26 = .ok (.dup, 1) := by decide +kernel
theorem dX4_key_27 : decode cX4_key 27 = .ok (.invokespecial 182, 3) := by decide +kernel
theorem dX4_key_30 : decode cX4_key 30 = .ok (.athrow, 1) := by decide +kernel
theorem dX4_key_31 : decode cX4_key 31 = .ok (.aload_n 0, 1) := by decide +kernel
theorem dX4_key_32 : decode cX4_key 32 = .ok (.getfield 53, 3) := by decide +kernel
theorem dX4_key_35 : decode cX4_key 35 = .ok (.iload_n 3, 1) := by decide +kernel
theorem dX4_key_36 : decode cX4_key 36 = .ok (.iconst 0, 1) := by decide +kernel
theorem dX4_key_37 : decode cX4_key 37 = .ok (.invokevirtual 160, 3) := by decide +kernel
theorem dX4_key_40 : decode cX4_key 40 = .ok (.ireturn, 1) := by decide +kernel
set_option maxRecDepth 20000 in
theorem ggX4_count_X4_isTable : GoodIn wsX4_count wsX4_isTable := goodIn_r _ [6, 7, 19, 20, 21, 22, 23, 24, 25, 26, 27, 28, 29, 30, 31, 32, 33, 34] (by decide +kernel) (by decide +kernel)
set_option maxRecDepth 20000 in
theorem gX4_count_X4_isTable : GoodIn wsX4_count (wsV RX4 85 RX4 yX4_isTable wsX4_isTable) := goodIn_app (goodIn_of _ (by decide +kernel)) ggX4_count_X4_isTable
set_option maxRecDepth 20000 in
theorem ggX4_count_X4_needArgument : GoodIn wsX4_count wsX4_needArgument := goodIn_ca (goodIn_r _ [10, 11, 12] (by decide +kernel) (by decide +kernel)) (goodIn_sub (fun _ h => List.mem_cons_of_mem _ (List.mem_append_right _ h)) (by decide +kernel))
set_option maxRecDepth 20000 in
theorem gX4_count_X4_needArgument : GoodIn wsX4_count (va_wsS RX4 74 yX4_needArgument wsX4_needArgument) := goodIn_app (goodIn_of _ (by decide +kernel)) ggX4_count_X4_needArgument
set_option maxRecDepth 20000 in
theorem ggX4_count_X2_size : GoodIn wsX4_count wsX2_size := goodIn_r _ [17, 18, 35, 36] (by decide +kernel) (by decide +kernel)
set_option maxRecDepth 20000 in
theorem gX4_count_X2_size : GoodIn wsX4_count (wsV RX4 169 RX2 yX2_size wsX2_size) := goodIn_app (goodIn_of _ (by decide +kernel)) ggX4_count_X2_size
theorem dX4_count_0 : decode cX4_count 0 = .ok (.aload_n 0, 1) := by decide +kernel
theorem dX4_count_1 : decode cX4_count 1 = .ok (.iload_n 1, 1) := by decide +kernel
theorem dX4_count_2 : decode cX4_count 2 = .ok (.invokevirtual 85, 3) := by decide +kernel
theorem dX4_count_5 : decode cX4_count 5 = .ok (.invokestatic 74, 3) := by decide +kernel
theorem dX4_count_8 : decode cX4_count 8 = .ok (.aload_n 0, 1) := by decide +kernel
theorem dX4_count_9 : decode cX4_count 9 = .ok (.getfield 53, 3) := by decide +kernel
theorem dX4_count_12 : decode cX4_count 12 = .ok (.iload_n 1, 1) := by decide +kernel
theorem dX4_count_13 : decode cX4_count 13 = .ok (.invokevirtual 169, 3) := by decide +kernel
theorem dX4_count_16 : decode cX4_count 16 = .ok (.ireturn, 1) := by decide +kernel
set_option maxRecDepth 20000 in
theorem ggX4_referring_X4_needArgument : GoodIn wsX4_referring wsX4_needArgument := goodIn_ca (goodIn_r _ [8, 9, 10] (by decide +kernel) (by decide +kernel)) (goodIn_sub (fun _ h => List.mem_cons_of_mem _ (List.mem_append_left _ (List.mem_append_right _ h))) (by decide +kernel))
set_option maxRecDepth 20000 in
theorem gX4_referring_X4_needArgument : GoodIn wsX4_referring (va_wsS RX4 74 yX4_needArgument wsX4_needArgument) := goodIn_app (goodIn_of _ (by decide +kernel)) ggX4_referring_X4_needArgument
set_option maxRecDepth 20000 in
theorem ggX4_referring_X2_find : GoodIn wsX4_referring wsX2_find := goodIn_r _ [15, 16, 17, 18, 19, 14, 20, 21, 65, 66] (by decide +kernel) (by decide +kernel)
set_option maxRecDepth 20000 in
theorem gX4_referring_X2_find : GoodIn wsX4_referring (wsV RX4 156 RX2 yX2_find wsX2_find) := goodIn_app (goodIn_of _ (by decide +kernel)) ggX4_referring_X2_find
set_option maxRecDepth 20000 in
theorem ggX4_referring_X4_needElement : GoodIn wsX4_referring wsX4_needElement := goodIn_ca (goodIn_r _ [24, 25, 26] (by decide +kernel) (by decide +kernel)) (goodIn_sub (fun _ h => List.mem_cons_of_mem _ (List.mem_append_right _ h)) (by decide +kernel))
set_option maxRecDepth 20000 in
theorem gX4_referring_X4_needElement : GoodIn wsX4_referring (va_wsS RX4 78 yX4_needElement wsX4_needElement) := goodIn_app (goodIn_of _ (by decide +kernel)) ggX4_referring_X4_needElement
set_option maxRecDepth 20000 in
theorem ggX4_referring_X1_target : GoodIn wsX4_referring wsX1_target := goodIn_r _ [31, 32, 33, 34, 35, 36, 30, 37, 38, 39, 40, 41, 14, 42, 16, 43, 18, 19, 20, 21, 44, 12, 13, 15, 17, 61, 62, 63, 64, 65, 66] (by decide +kernel) (by decide +kernel)
set_option maxRecDepth 20000 in
theorem gX4_referring_X1_target : GoodIn wsX4_referring (wsV RX4 186 RX1 yX1_target wsX1_target) := goodIn_app (goodIn_of _ (by decide +kernel)) ggX4_referring_X1_target
theorem dX4_referring_0 : decode cX4_referring 0 = .ok (.iload_n 1, 1) := by decide +kernel
theorem dX4_referring_1 : decode cX4_referring 1 = .ok (.ifCond .lt 15, 3) := by decide +kernel
theorem dX4_referring_4 : decode cX4_referring 4 = .ok (.iload_n 1, 1) := by decide +kernel
theorem dX4_referring_5 : decode cX4_referring 5 = .ok (.aload_n 0, 1) := by decide +kernel
theorem dX4_referring_6 : decode cX4_referring 6 = .ok (.getfield 23, 3) := by decide +kernel
theorem dX4_referring_9 : decode cX4_referring 9 = .ok (.if_icmp .ge 7, 3) := by decide +kernel
theorem dX4_referring_12 : decode cX4_referring 12 = .ok (.iconst 1, 1) := by decide +kernel
theorem dX4_referring_13 : decode cX4_referring 13 = .ok (.goto 4, 3) := by decide +kernel
theorem dX4_referring_16 : decode cX4_referring 16 = .ok (.iconst 0, 1) := by decide +kernel
theorem dX4_referring_17 : decode cX4_referring 17 = .ok (.invokestatic 74, 3) := by decide +kernel
theorem dX4_referring_20 : decode cX4_referring 20 = .ok (.aload_n 0, 1) := by decide +kernel
theorem dX4_referring_21 : decode cX4_referring 21 = .ok (.getfield 53, 3) := by decide +kernel
theorem dX4_referring_24 : decode cX4_referring 24 = .ok (.aload_n 0, 1) := by decide +kernel
theorem dX4_referring_25 : decode cX4_referring 25 = .ok (.getfield 19, 3) := by decide +kernel
theorem dX4_referring_28 : decode cX4_referring 28 = .ok (.iload_n 1, 1) := by decide +kernel
theorem dX4_referring_29 : decode cX4_referring 29 = .ok (.aaload, 1) := by decide +kernel
theorem dX4_referring_30 : decode cX4_referring 30 = .ok (.getfield 183, 3) := by decide +kernel
theorem dX4_referring_33 : decode cX4_referring 33 = .ok (.iload_n 2, 1) := by decide +kernel
theorem dX4_referring_34 : decode cX4_referring 34 = .ok (.invokevirtual 156, 3) := by decide +kernel
theorem dX4_referring_37 : decode cX4_referring 37 = .ok (.istore_n 3, 1) := by decide +kernel
theorem dX4_referring_38 : decode cX4_referring 38 = .ok (.iload_n 3, 1) := by decide +kernel
theorem dX4_referring_39 : decode cX4_referring 39 = .ok (.iconst (-1), 1) := by decide +kernel
theorem dX4_referring_40 : decode cX4_referring 40 = .ok (.if_icmp .eq 7, 3) := by decide +kernel
theorem dX4_referring_43 : decode cX4_referring 43 = .ok (.iconst 1, 1) := by decide +kernel
theorem dX4_referring_44 : decode cX4_referring 44 = .ok (.goto 4, 3) := by decide +kernel
theorem dX4_referring_47 : decode cX4_referring 47 = .ok (.iconst 0, 1) := by decide +kernel
theorem dX4_referring_48 : decode cX4_referring 48 = .ok (.invokestatic 78, 3) := by decide +kernel
theorem dX4_referring_51 : decode cX4_referring 51 = .ok (.iconst 0, 1) := by decide +kernel
theorem dX4_referring_52 : decode cX4_referring 52 = .ok (.istore 4, 2) := by decide +kernel
theorem dX4_referring_54 : decode cX4_referring 54 = .ok (.iconst 0, 1) := by decide +kernel
theorem dX4_referring_55 : decode cX4_referring 55 = .ok (.istore 5, 2) := by decide +kernel
theorem dX4_referring_57 : decode cX4_referring 57 = .ok (.iload 5, 2) := by decide +kernel
theorem dX4_referring_59 : decode cX4_referring 59 = .ok (.bipush 24, 2) := by decide +kernel
theorem dX4_referring_61 : decode cX4_referring 61 = .ok (.if_icmp .ge 31, 3) := by decide +kernel
theorem dX4_referring_64 : decode cX4_referring 64 = .ok (.aload_n 0, 1) := by decide +kernel
theorem dX4_referring_65 : decode cX4_referring 65 = .ok (.getfield 19, 3) := by decide +kernel
theorem dX4_referring_68 : decode cX4_referring 68 = .ok (.iload_n 1, 1) := by decide +kernel
theorem dX4_referring_69 : decode cX4_referring 69 = .ok (.aaload, 1) := by decide +kernel
theorem dX4_referring_70 : decode cX4_referring 70 = .ok (.aload_n 0, 1) := by decide +kernel
theorem dX4_referring_71 : decode cX4_referring 71 = .ok (.getfield 53, 3) := by decide +kernel
theorem dX4_referring_74 : decode cX4_referring 74 = .ok (.iload 5, 2) := by decide +kernel
theorem dX4_referring_76 : decode cX4_referring 76 = .ok (.invokevirtual 186, 3) := by decide +kernel
theorem dX4_referring_79 : decode cX4_referring 79 = .ok (.iload_n 3, 1) := by decide +kernel
theorem dX4_referring_80 : decode cX4_referring 80 = .ok (.if_icmp .ne 6, 3) := by decide +kernel
theorem dX4_referring_83 : decode cX4_referring 83 = .ok (.iinc 4 1, 3) := by decide +kernel
theorem dX4_referring_86 : decode cX4_referring 86 = .ok (.iinc 5 1, 3) := by decide +kernel
theorem dX4_referring_89 : decode cX4_referring 89 = .ok (.goto (-32), 3) := by decide +kernel
theorem dX4_referring_92 : decode cX4_referring 92 = .ok (.iload 4, 2) := by decide +kernel
theorem dX4_referring_94 : decode cX4_referring 94 = .ok (.ireturn, 1) := by decide +kernel
theorem dX4_reason_0 : decode cX4_reason 0 = .ok (.aload_n 0, 1) := by decide +kernel
theorem dX4_reason_1 : decode cX4_reason 1 = .ok (.getfield 71, 3) := by decide +kernel
theorem dX4_reason_4 : decode cX4_reason 4 = .ok (.ireturn, 1) := by decide +kernel
theorem dX4_isTable_0 : decode cX4_isTable 0 = .ok (.iload_n 1, 1) := by decide +kernel
theorem dX4_isTable_1 : decode cX4_isTable 1 = .ok (.ifCond .lt 15, 3) := by decide +kernel
theorem dX4_isTable_4 : decode cX4_isTable 4 = .ok (.iload_n 1, 1) := by decide +kernel
theorem dX4_isTable_5 : decode cX4_isTable 5 = .ok (.aload_n 0, 1) := by decide +kernel
theorem dX4_isTable_6 : decode cX4_isTable 6 = .ok (.getfield 13, 3) := by decide +kernel
theorem dX4_isTable_9 : decode cX4_isTable 9 = .ok (.if_icmp .ge 7, 3) := by decide +kernel
theorem dX4_isTable_12 : decode cX4_isTable 12 = .ok (.iconst 1, 1) := by decide +kernel
theorem dX4_isTable_13 : decode cX4_isTable 13 = .ok (.goto 4, 3) := by decide +kernel
theorem dX4_isTable_16 : decode cX4_isTable 16 = .ok (.iconst 0, 1) := by decide +kernel
theorem dX4_isTable_17 : decode cX4_isTable 17 = .ok (.ireturn, 1) := by decide +kernel
set_option maxRecDepth 20000 in
theorem ggX4_isColumn_X4_isTable : GoodIn wsX4_isColumn wsX4_isTable := goodIn_r _ [6, 7, 8, 9, 10, 11, 12, 13, 14, 15, 16, 17, 18, 19, 20, 21, 22, 23] (by decide +kernel) (by decide +kernel)
set_option maxRecDepth 20000 in
theorem gX4_isColumn_X4_isTable : GoodIn wsX4_isColumn (wsV RX4 85 RX4 yX4_isTable wsX4_isTable) := goodIn_app (goodIn_of _ (by decide +kernel)) ggX4_isColumn_X4_isTable
theorem dX4_isColumn_0 : decode cX4_isColumn 0 = .ok (.aload_n 0, 1) := by decide +kernel
theorem dX4_isColumn_1 : decode cX4_isColumn 1 = .ok (.iload_n 1, 1) := by decide +kernel
theorem dX4_isColumn_2 : decode cX4_isColumn 2 = .ok (.invokevirtual 85, 3) := by decide +kernel
theorem dX4_isColumn_5 : decode cX4_isColumn 5 = .ok (.ifCond .eq 21, 3) := by decide +kernel
theorem dX4_isColumn_8 : decode cX4_isColumn 8 = .ok (.iload_n 2, 1) := by decide +kernel
theorem dX4_isColumn_9 : decode cX4_isColumn 9 = .ok (.ifCond .lt 17, 3) := by decide +kernel
theorem dX4_isColumn_12 : decode cX4_isColumn 12 = .ok (.iload_n 2, 1) := by decide +kernel
theorem dX4_isColumn_13 : decode cX4_isColumn 13 = .ok (.aload_n 0, 1) := by decide +kernel
theorem dX4_isColumn_14 : decode cX4_isColumn 14 = .ok (.getfield 9, 3) := by decide +kernel
theorem dX4_isColumn_17 : decode cX4_isColumn 17 = .ok (.iload_n 1, 1) := by decide +kernel
theorem dX4_isColumn_18 : decode cX4_isColumn 18 = .ok (.iaload, 1) := by decide +kernel
theorem dX4_isColumn_19 : decode cX4_isColumn 19 = .ok (.if_icmp .ge 7, 3) := by decide +kernel
theorem dX4_isColumn_22 : decode cX4_isColumn 22 = .ok (.iconst 1, 1) := by decide +kernel
theorem dX4_isColumn_23 : decode cX4_isColumn 23 = .ok (.goto 4, 3) := by decide +kernel
theorem dX4_isColumn_26 : decode cX4_isColumn 26 = .ok (.iconst 0, 1) := by decide +kernel
theorem dX4_isColumn_27 : decode cX4_isColumn 27 = .ok (.ireturn, 1) := by decide +kernel
set_option maxRecDepth 20000 in
theorem ggX4_isCellColumn_X4_isColumn : GoodIn wsX4_isCellColumn wsX4_isColumn := goodIn_r _ [5, 6, 7, 8, 9, 4, 10, 11, 12, 13, 14, 15, 16, 17, 18, 19, 20, 21, 22, 23, 24, 25, 26, 27] (by decide +kernel) (by decide +kernel)
set_option maxRecDepth 20000 in
theorem gX4_isCellColumn_X4_isColumn : GoodIn wsX4_isCellColumn (wsV RX4 140 RX4 yX4_isColumn wsX4_isColumn) := goodIn_app (goodIn_of _ (by decide +kernel)) ggX4_isCellColumn_X4_isColumn
theorem dX4_isCellColumn_0 : decode cX4_isCellColumn 0 = .ok (.aload_n 0, 1) := by decide +kernel
theorem dX4_isCellColumn_1 : decode cX4_isCellColumn 1 = .ok (.iload_n 1, 1) := by decide +kernel
theorem dX4_isCellColumn_2 : decode cX4_isCellColumn 2 = .ok (.iload_n 2, 1) := by decide +kernel
theorem dX4_isCellColumn_3 : decode cX4_isCellColumn 3 = .ok (.invokevirtual 140, 3) := by decide +kernel
theorem dX4_isCellColumn_6 : decode cX4_isCellColumn 6 = .ok (.ifCond .eq 11, 3) := by decide +kernel
theorem dX4_isCellColumn_9 : decode cX4_isCellColumn 9 = .ok (.iload_n 2, 1) := by decide +kernel
theorem dX4_isCellColumn_10 : decode cX4_isCellColumn 10 = .ok (.ifCond .eq 7, 3) := by decide +kernel
theorem dX4_isCellColumn_13 : decode cX4_isCellColumn 13 = .ok (.iconst 1, 1) := by decide +kernel
theorem dX4_isCellColumn_14 : decode cX4_isCellColumn 14 = .ok (.goto 4, 3) := by decide +kernel
theorem dX4_isCellColumn_17 : decode cX4_isCellColumn 17 = .ok (.iconst 0, 1) := by decide +kernel
theorem dX4_isCellColumn_18 : decode cX4_isCellColumn 18 = .ok (.ireturn, 1) := by decide +kernel
theorem dX4_needArgument_0 : decode cX4_needArgument 0 = .ok (.iload_n 0, 1) := by decide +kernel
theorem dX4_needArgument_1 : decode cX4_needArgument 1 = .ok (.ifCond .ne 11, 3) := by decide +kernel
theorem dX4_needArgument_4 : decode cX4_needArgument 4 = .ok (.new 190, 3) := by decide +kernel
theorem dX4_needArgument_7 : decode cX4_needArgument 7 = .ok (.dup, 1) := by decide +kernel
theorem dX4_needArgument_8 : decode cX4_needArgument 8 = .ok (.invokespecial 192, 3) := by decide +kernel
theorem dX4_needArgument_11 : decode cX4_needArgument 11 = .ok (.athrow, 1) := by decide +kernel
theorem dX4_needArgument_12 : decode cX4_needArgument 12 = .ok (.return_, 1) := by decide +kernel
theorem dX4_needElement_0 : decode cX4_needElement 0 = .ok (.iload_n 0, 1) := by decide +kernel
theorem dX4_needElement_1 : decode cX4_needElement 1 = .ok (.ifCond .ne 11, 3) := by decide +kernel
theorem dX4_needElement_4 : decode cX4_needElement 4 = .ok (.new 193, 3) := by decide +kernel
theorem dX4_needElement_7 : decode cX4_needElement 7 = .ok (.dup, 1) := by decide +kernel
theorem dX4_needElement_8 : decode cX4_needElement 8 = .ok (.invokespecial 195, 3) := by decide +kernel
theorem dX4_needElement_11 : decode cX4_needElement 11 = .ok (.athrow, 1) := by decide +kernel
theorem dX4_needElement_12 : decode cX4_needElement 12 = .ok (.return_, 1) := by decide +kernel
theorem dX4_refuseIf_0 : decode cX4_refuseIf 0 = .ok (.iload_n 1, 1) := by decide +kernel
theorem dX4_refuseIf_1 : decode cX4_refuseIf 1 = .ok (.ifCond .eq 16, 3) := by decide +kernel
theorem dX4_refuseIf_4 : decode cX4_refuseIf 4 = .ok (.aload_n 0, 1) := by decide +kernel
theorem dX4_refuseIf_5 : decode cX4_refuseIf 5 = .ok (.iload_n 2, 1) := by decide +kernel
theorem dX4_refuseIf_6 : decode cX4_refuseIf 6 = .ok (.putfield 71, 3) := by decide +kernel
theorem dX4_refuseIf_9 : decode cX4_refuseIf 9 = .ok (.new 196, 3) := by decide +kernel
theorem dX4_refuseIf_12 : decode cX4_refuseIf 12 = .ok (.dup, 1) := by decide +kernel
theorem dX4_refuseIf_13 : decode cX4_refuseIf 13 = .ok (.invokespecial 198, 3) := by decide +kernel
theorem dX4_refuseIf_16 : decode cX4_refuseIf 16 = .ok (.athrow, 1) := by decide +kernel
theorem dX4_refuseIf_17 : decode cX4_refuseIf 17 = .ok (.return_, 1) := by decide +kernel
set_option maxRecDepth 20000 in
theorem ggX4_settle_X4_whyBroken : GoodIn wsX4_settle wsX4_whyBroken := goodIn_r _ [7, 8, 9, 10, 11, 12, 13, 14, 15, 16, 17, 18, 19, 20, 21, 22, 23, 24, 25, 26, 27, 28, 29, 30, 31, 32, 33, 34, 35, 36, 37, 38, 39, 40, 41, 42, 43, 44, 45, 46, 47, 48, 49, 50, 51, 52, 53, 54, 55, 56, 57, 58, 59, 60, 61, 62, 63, 64, 65, 66, 67, 68, 69, 70, 71, 72, 73, 74, 75, 76, 77, 78, 79, 80, 81, 82, 83, 84, 85, 86, 102, 103, 104, 105, 106, 107, 108, 109, 110, 111, 112, 113, 114, 115, 116, 117, 118, 119, 120, 121, 122, 123, 124, 125, 126, 127, 128] (by decide +kernel) (by decide +kernel)
set_option maxRecDepth 20000 in
theorem gX4_settle_X4_whyBroken : GoodIn wsX4_settle (wsV RX4 173 RX4 yX4_whyBroken wsX4_whyBroken) := goodIn_app (goodIn_of _ (by decide +kernel)) ggX4_settle_X4_whyBroken
set_option maxRecDepth 20000 in
theorem ggX4_settle_X4_refuseIf : GoodIn wsX4_settle wsX4_refuseIf := goodIn_ca (goodIn_r _ [90, 91, 92, 93, 102, 103, 104, 105, 106, 107, 108, 109, 110, 111, 112, 113, 114, 115, 116, 117] (by decide +kernel) (by decide +kernel)) (goodIn_sub (fun _ h => List.mem_cons_of_mem _ (List.mem_append_right _ h)) (by decide +kernel))
set_option maxRecDepth 20000 in
theorem gX4_settle_X4_refuseIf : GoodIn wsX4_settle (wsV RX4 96 RX4 yX4_refuseIf wsX4_refuseIf) := goodIn_app (goodIn_of _ (by decide +kernel)) ggX4_settle_X4_refuseIf
set_option maxRecDepth 20000 in
theorem ggX4_settle_X2_become : GoodIn wsX4_settle wsX2_become := goodIn_r _ [97, 20, 98, 99, 100, 101, 25, 118, 119] (by decide +kernel) (by decide +kernel)
set_option maxRecDepth 20000 in
theorem gX4_settle_X2_become : GoodIn wsX4_settle (wsV RX4 125 RX2 yX2_become wsX2_become) := goodIn_app (goodIn_of _ (by decide +kernel)) ggX4_settle_X2_become
theorem dX4_settle_0 : decode cX4_settle 0 = .ok (.iload_n 1, 1) := by decide +kernel
theorem dX4_settle_1 : decode cX4_settle 1 = .ok (.iconst (-1), 1) := by decide +kernel
theorem dX4_settle_2 : decode cX4_settle 2 = .ok (.if_icmp .ne 14, 3) := by decide +kernel
theorem dX4_settle_5 : decode cX4_settle 5 = .ok (.aload_n 0, 1) := by decide +kernel
theorem dX4_settle_6 : decode cX4_settle 6 = .ok (.aload_n 0, 1) := by decide +kernel
theorem dX4_settle_7 : decode cX4_settle 7 = .ok (.getfield 57, 3) := by decide +kernel
theorem dX4_settle_10 : decode cX4_settle 10 = .ok (.invokevirtual 173, 3) := by decide +kernel
theorem dX4_settle_13 : decode cX4_settle 13 = .ok (.goto 7, 3) := by decide +kernel
theorem dX4_settle_16 : decode cX4_settle 16 = .ok (.bipush 100, 2) := by decide +kernel
theorem dX4_settle_18 : decode cX4_settle 18 = .ok (.iload_n 1, 1) := by decide +kernel
theorem dX4_settle_19 : decode cX4_settle 19 = .ok (.iadd, 1) := by decide +kernel
theorem dX4_settle_20 : decode cX4_settle 20 = .ok (.istore_n 2, 1) := by decide +kernel
theorem dX4_settle_21 : decode cX4_settle 21 = .ok (.aload_n 0, 1) := by decide +kernel
theorem dX4_settle_22 : decode cX4_settle 22 = .ok (.iload_n 2, 1) := by decide +kernel
theorem dX4_settle_23 : decode cX4_settle 23 = .ok (.ifCond .eq 7, 3) := by decide +kernel
theorem dX4_settle_26 : decode cX4_settle 26 = .ok (.iconst 1, 1) := by decide +kernel
theorem dX4_settle_27 : decode cX4_settle 27 = .ok (.goto 4, 3) := by decide +kernel
theorem dX4_settle_30 : decode cX4_settle 30 = .ok (.iconst 0, 1) := by decide +kernel
theorem dX4_settle_31 : decode cX4_settle 31 = .ok (.iload_n 2, 1) := by decide +kernel
theorem dX4_settle_32 : decode cX4_settle 32 = .ok (.invokevirtual 96, 3) := by decide +kernel
theorem dX4_settle_35 : decode cX4_settle 35 = .ok (.aload_n 0, 1) := by decide +kernel
theorem dX4_settle_36 : decode cX4_settle 36 = .ok (.getfield 53, 3) := by decide +kernel
theorem dX4_settle_39 : decode cX4_settle 39 = .ok (.aload_n 0, 1) := by decide +kernel
theorem dX4_settle_40 : decode cX4_settle 40 = .ok (.getfield 57, 3) := by decide +kernel
theorem dX4_settle_43 : decode cX4_settle 43 = .ok (.invokevirtual 125, 3) := by decide +kernel
theorem dX4_settle_46 : decode cX4_settle 46 = .ok (.return_, 1) := by decide +kernel
set_option maxRecDepth 20000 in
theorem ggX4_whyBroken_X2_hasTwins : GoodIn wsX4_whyBroken wsX2_hasTwins := goodIn_r _ [12, 13, 14, 15, 16, 11, 17, 18, 19, 20, 21, 22, 96, 97] (by decide +kernel) (by decide +kernel)
set_option maxRecDepth 20000 in
theorem gX4_whyBroken_X2_hasTwins : GoodIn wsX4_whyBroken (wsV RX4 199 RX2 yX2_hasTwins wsX2_hasTwins) := goodIn_app (goodIn_of _ (by decide +kernel)) ggX4_whyBroken_X2_hasTwins
set_option maxRecDepth 20000 in
theorem ggX4_whyBroken_X3_isBroken : GoodIn wsX4_whyBroken wsX3_isBroken := goodIn_r _ [27, 28, 29, 30, 9, 10, 11, 12, 13, 14, 15, 16, 17, 18, 19, 20, 21, 22, 98, 99, 96, 97] (by decide +kernel) (by decide +kernel)
set_option maxRecDepth 20000 in
theorem gX4_whyBroken_X3_isBroken : GoodIn wsX4_whyBroken (wsV RX4 103 RX3 yX3_isBroken wsX3_isBroken) := goodIn_app (goodIn_of _ (by decide +kernel)) ggX4_whyBroken_X3_isBroken
set_option maxRecDepth 20000 in
theorem ggX4_whyBroken_X1_isBroken : GoodIn wsX4_whyBroken wsX1_isBroken := goodIn_r _ [35, 36, 37, 38, 34, 39, 40, 41, 42, 43, 44, 11, 45, 13, 46, 15, 16, 17, 18, 47, 48, 49, 50, 51, 52, 53, 54, 55, 14, 100, 101, 102, 103, 96, 97] (by decide +kernel) (by decide +kernel)
set_option maxRecDepth 20000 in
theorem gX4_whyBroken_X1_isBroken : GoodIn wsX4_whyBroken (wsV RX4 92 RX1 yX1_isBroken wsX1_isBroken) := goodIn_app (goodIn_of _ (by decide +kernel)) ggX4_whyBroken_X1_isBroken
set_option maxRecDepth 20000 in
theorem ggX4_whyBroken_X0_isBroken : GoodIn wsX4_whyBroken wsX0_isBroken := goodIn_r _ [60, 61, 62, 43, 44, 11, 45, 13, 63, 64, 65, 59, 66, 67, 68, 69, 70, 71, 72, 73, 74, 75, 15, 16, 17, 18, 76, 77, 78, 79, 104, 105, 106, 96, 97] (by decide +kernel) (by decide +kernel)
set_option maxRecDepth 20000 in
theorem gX4_whyBroken_X0_isBroken : GoodIn wsX4_whyBroken (wsV RX4 120 RX0 yX0_isBroken wsX0_isBroken) := goodIn_app (goodIn_of _ (by decide +kernel)) ggX4_whyBroken_X0_isBroken
theorem dX4_whyBroken_0 : decode cX4_whyBroken 0 = .ok (.iconst 0, 1) := by decide +kernel
theorem dX4_whyBroken_1 : decode cX4_whyBroken 1 = .ok (.istore_n 2, 1) := by decide +kernel
theorem dX4_whyBroken_2 : decode cX4_whyBroken 2 = .ok (.iload_n 2, 1) := by decide +kernel
theorem dX4_whyBroken_3 : decode cX4_whyBroken 3 = .ok (.aload_n 0, 1) := by decide +kernel
theorem dX4_whyBroken_4 : decode cX4_whyBroken 4 = .ok (.getfield 13, 3) := by decide +kernel
theorem dX4_whyBroken_7 : decode cX4_whyBroken 7 = .ok (.if_icmp .ge 24, 3) := by decide +kernel
theorem dX4_whyBroken_10 : decode cX4_whyBroken 10 = .ok (.aload_n 1, 1) := by decide +kernel
theorem dX4_whyBroken_11 : decode cX4_whyBroken 11 = .ok (.iload_n 2, 1) := by decide +kernel
theorem dX4_whyBroken_12 : decode cX4_whyBroken 12 = .ok (.iconst 0, 1) := by decide +kernel
theorem dX4_whyBroken_13 : decode cX4_whyBroken 13 = .ok (.invokevirtual 199, 3) := by decide +kernel
theorem dX4_whyBroken_16 : decode cX4_whyBroken 16 = .ok (.ifCond .eq 9, 3) := by decide +kernel
theorem dX4_whyBroken_19 : decode cX4_whyBroken 19 = .ok (.sipush 200, 3) := by decide +kernel
theorem dX4_whyBroken_22 : decode cX4_whyBroken 22 = .ok (.iload_n 2, 1) := by decide +kernel
theorem dX4_whyBroken_23 : decode cX4_whyBroken 23 = .ok (.iadd, 1) := by decide +kernel
theorem dX4_whyBroken_24 : decode cX4_whyBroken 24 = .ok (.ireturn, 1) := by decide +kernel
theorem dX4_whyBroken_25 : decode cX4_whyBroken 25 = .ok (.iinc 2 1, 3) := by decide +kernel
theorem dX4_whyBroken_28 : decode cX4_whyBroken 28 = .ok (.goto (-26), 3) := by decide +kernel
theorem dX4_whyBroken_31 : decode cX4_whyBroken 31 = .ok (.iconst 0, 1) := by decide +kernel
theorem dX4_whyBroken_32 : decode cX4_whyBroken 32 = .ok (.istore_n 2, 1) := by decide +kernel
theorem dX4_whyBroken_33 : decode cX4_whyBroken 33 = .ok (.iload_n 2, 1) := by decide +kernel
theorem dX4_whyBroken_34 : decode cX4_whyBroken 34 = .ok (.aload_n 0, 1) := by decide +kernel
theorem dX4_whyBroken_35 : decode cX4_whyBroken 35 = .ok (.getfield 32, 3) := by decide +kernel
theorem dX4_whyBroken_38 : decode cX4_whyBroken 38 = .ok (.if_icmp .ge 28, 3) := by decide +kernel
theorem dX4_whyBroken_41 : decode cX4_whyBroken 41 = .ok (.aload_n 0, 1) := by decide +kernel
theorem dX4_whyBroken_42 : decode cX4_whyBroken 42 = .ok (.getfield 28, 3) := by decide +kernel
theorem dX4_whyBroken_45 : decode cX4_whyBroken 45 = .ok (.iload_n 2, 1) := by decide +kernel
theorem dX4_whyBroken_46 : decode cX4_whyBroken 46 = .ok (.aaload, 1) := by decide +kernel
theorem dX4_whyBroken_47 : decode cX4_whyBroken 47 = .ok (.aload_n 1, 1) := by decide +kernel
theorem dX4_whyBroken_48 : decode cX4_whyBroken 48 = .ok (.invokevirtual 103, 3) := by decide +kernel
theorem dX4_whyBroken_51 : decode cX4_whyBroken 51 = .ok (.ifCond .eq 9, 3) := by decide +kernel
theorem dX4_whyBroken_54 : decode cX4_whyBroken 54 = .ok (.sipush 300, 3) := by decide +kernel
theorem dX4_whyBroken_57 : decode cX4_whyBroken 57 = .ok (.iload_n 2, 1) := by decide +kernel
theorem dX4_whyBroken_58 : decode cX4_whyBroken 58 = .ok (.iadd, 1) := by decide +kernel
theorem dX4_whyBroken_59 : decode cX4_whyBroken 59 = .ok (.ireturn, 1) := by decide +kernel
theorem dX4_whyBroken_60 : decode cX4_whyBroken 60 = .ok (.iinc 2 1, 3) := by decide +kernel
theorem dX4_whyBroken_63 : decode cX4_whyBroken 63 = .ok (.goto (-30), 3) := by decide +kernel
theorem dX4_whyBroken_66 : decode cX4_whyBroken 66 = .ok (.iconst 0, 1) := by decide +kernel
theorem dX4_whyBroken_67 : decode cX4_whyBroken 67 = .ok (.istore_n 2, 1) := by decide +kernel
theorem dX4_whyBroken_68 : decode cX4_whyBroken 68 = .ok (.iload_n 2, 1) := by decide +kernel
theorem dX4_whyBroken_69 : decode cX4_whyBroken 69 = .ok (.aload_n 0, 1) := by decide +kernel
theorem dX4_whyBroken_70 : decode cX4_whyBroken 70 = .ok (.getfield 23, 3) := by decide +kernel
theorem dX4_whyBroken_73 : decode cX4_whyBroken 73 = .ok (.if_icmp .ge 28, 3) := by decide +kernel
theorem dX4_whyBroken_76 : decode cX4_whyBroken 76 = .ok (.aload_n 0, 1) := by decide +kernel
theorem dX4_whyBroken_77 : decode cX4_whyBroken 77 = .ok (.getfield 19, 3) := by decide +kernel
theorem dX4_whyBroken_80 : decode cX4_whyBroken 80 = .ok (.iload_n 2, 1) := by decide +kernel
theorem dX4_whyBroken_81 : decode cX4_whyBroken 81 = .ok (.aaload, 1) := by decide +kernel
theorem dX4_whyBroken_82 : decode cX4_whyBroken 82 = .ok (.aload_n 1, 1) := by decide +kernel
theorem dX4_whyBroken_83 : decode cX4_whyBroken 83 = .ok (.invokevirtual 92, 3) := by decide +kernel
theorem dX4_whyBroken_86 : decode cX4_whyBroken 86 = .ok (.ifCond .eq 9, 3) := by decide +kernel
theorem dX4_whyBroken_89 : decode cX4_whyBroken 89 = .ok (.sipush 400, 3) := by decide +kernel
theorem dX4_whyBroken_92 : decode cX4_whyBroken 92 = .ok (.iload_n 2, 1) := by decide +kernel
theorem dX4_whyBroken_93 : decode cX4_whyBroken 93 = .ok (.iadd, 1) := by decide +kernel
theorem dX4_whyBroken_94 : decode cX4_whyBroken 94 = .ok (.ireturn, 1) := by decide +kernel
theorem dX4_whyBroken_95 : decode cX4_whyBroken 95 = .ok (.iinc 2 1, 3) := by decide +kernel
theorem dX4_whyBroken_98 : decode cX4_whyBroken 98 = .ok (.goto (-30), 3) := by decide +kernel
theorem dX4_whyBroken_101 : decode cX4_whyBroken 101 = .ok (.iconst 0, 1) := by decide +kernel
theorem dX4_whyBroken_102 : decode cX4_whyBroken 102 = .ok (.istore_n 2, 1) := by decide +kernel
theorem dX4_whyBroken_103 : decode cX4_whyBroken 103 = .ok (.iload_n 2, 1) := by decide +kernel
theorem dX4_whyBroken_104 : decode cX4_whyBroken 104 = .ok (.aload_n 0, 1) := by decide +kernel
theorem dX4_whyBroken_105 : decode cX4_whyBroken 105 = .ok (.getfield 41, 3) := by decide +kernel
theorem dX4_whyBroken_108 : decode cX4_whyBroken 108 = .ok (.if_icmp .ge 28, 3) := by decide +kernel
theorem dX4_whyBroken_111 : decode cX4_whyBroken 111 = .ok (.aload_n 0, 1) := by decide +kernel
theorem dX4_whyBroken_112 : decode cX4_whyBroken 112 = .ok (.getfield 37, 3) := by decide +kernel
theorem dX4_whyBroken_115 : decode cX4_whyBroken 115 = .ok (.iload_n 2, 1) := by decide +kernel
theorem dX4_whyBroken_116 : decode cX4_whyBroken 116 = .ok (.aaload, 1) := by decide +kernel
theorem dX4_whyBroken_117 : decode cX4_whyBroken 117 = .ok (.aload_n 1, 1) := by decide +kernel
theorem dX4_whyBroken_118 : decode cX4_whyBroken 118 = .ok (.invokevirtual 120, 3) := by decide +kernel
theorem dX4_whyBroken_121 : decode cX4_whyBroken 121 = .ok (.ifCond .eq 9, 3) := by decide +kernel
theorem dX4_whyBroken_124 : decode cX4_whyBroken 124 = .ok (.sipush 500, 3) := by decide +kernel
theorem dX4_whyBroken_127 : decode cX4_whyBroken 127 = .ok (.iload_n 2, 1) := by decide +kernel
theorem dX4_whyBroken_128 : decode cX4_whyBroken 128 = .ok (.iadd, 1) := by decide +kernel
theorem dX4_whyBroken_129 : decode cX4_whyBroken 129 = .ok (.ireturn, 1) := by decide +kernel
theorem dX4_whyBroken_130 : decode cX4_whyBroken 130 = .ok (.iinc 2 1, 3) := by decide +kernel
theorem dX4_whyBroken_133 : decode cX4_whyBroken 133 = .ok (.goto (-30), 3) := by decide +kernel
theorem dX4_whyBroken_136 : decode cX4_whyBroken 136 = .ok (.iconst 0, 1) := by decide +kernel
theorem dX4_whyBroken_137 : decode cX4_whyBroken 137 = .ok (.ireturn, 1) := by decide +kernel
set_option maxRecDepth 20000 in
theorem ggX4_markGoing_X2_holds : GoodIn wsX4_markGoing wsX2_holds := goodIn_r _ [7, 8, 30, 31] (by decide +kernel) (by decide +kernel)
set_option maxRecDepth 20000 in
theorem gX4_markGoing_X2_holds : GoodIn wsX4_markGoing (wsV RX4 166 RX2 yX2_holds wsX2_holds) := goodIn_app (goodIn_of _ (by decide +kernel)) ggX4_markGoing_X2_holds
set_option maxRecDepth 20000 in
theorem ggX4_markGoing_X2_at : GoodIn wsX4_markGoing wsX2_at := goodIn_r _ [12, 13, 30, 31] (by decide +kernel) (by decide +kernel)
set_option maxRecDepth 20000 in
theorem gX4_markGoing_X2_at : GoodIn wsX4_markGoing (wsV RX4 160 RX2 yX2_at wsX2_at) := goodIn_app (goodIn_of _ (by decide +kernel)) ggX4_markGoing_X2_at
theorem dX4_markGoing_0 : decode cX4_markGoing 0 = .ok (.iconst 0, 1) := by decide +kernel
theorem dX4_markGoing_1 : decode cX4_markGoing 1 = .ok (.istore 4, 2) := by decide +kernel
theorem dX4_markGoing_3 : decode cX4_markGoing 3 = .ok (.iload 4, 2) := by decide +kernel
theorem dX4_markGoing_5 : decode cX4_markGoing 5 = .ok (.bipush 24, 2) := by decide +kernel
theorem dX4_markGoing_7 : decode cX4_markGoing 7 = .ok (.if_icmp .ge 48, 3) := by decide +kernel
theorem dX4_markGoing_10 : decode cX4_markGoing 10 = .ok (.aload_n 0, 1) := by decide +kernel
theorem dX4_markGoing_11 : decode cX4_markGoing 11 = .ok (.getfield 67, 3) := by decide +kernel
theorem dX4_markGoing_14 : decode cX4_markGoing 14 = .ok (.iload 4, 2) := by decide +kernel
theorem dX4_markGoing_16 : decode cX4_markGoing 16 = .ok (.aload_n 0, 1) := by decide +kernel
theorem dX4_markGoing_17 : decode cX4_markGoing 17 = .ok (.getfield 53, 3) := by decide +kernel
theorem dX4_markGoing_20 : decode cX4_markGoing 20 = .ok (.iload 4, 2) := by decide +kernel
theorem dX4_markGoing_22 : decode cX4_markGoing 22 = .ok (.iload_n 1, 1) := by decide +kernel
theorem dX4_markGoing_23 : decode cX4_markGoing 23 = .ok (.invokevirtual 166, 3) := by decide +kernel
theorem dX4_markGoing_26 : decode cX4_markGoing 26 = .ok (.ifCond .eq 21, 3) := by decide +kernel
theorem dX4_markGoing_29 : decode cX4_markGoing 29 = .ok (.aload_n 0, 1) := by decide +kernel
theorem dX4_markGoing_30 : decode cX4_markGoing 30 = .ok (.getfield 53, 3) := by decide +kernel
theorem dX4_markGoing_33 : decode cX4_markGoing 33 = .ok (.iload 4, 2) := by decide +kernel
theorem dX4_markGoing_35 : decode cX4_markGoing 35 = .ok (.iload_n 2, 1) := by decide +kernel
theorem dX4_markGoing_36 : decode cX4_markGoing 36 = .ok (.invokevirtual 160, 3) := by decide +kernel
theorem dX4_markGoing_39 : decode cX4_markGoing 39 = .ok (.iload_n 3, 1) := by decide +kernel
theorem dX4_markGoing_40 : decode cX4_markGoing 40 = .ok (.if_icmp .ne 7, 3) := by decide +kernel
theorem dX4_markGoing_43 : decode cX4_markGoing 43 = .ok (.iconst 1, 1) := by decide +kernel
theorem dX4_markGoing_44 : decode cX4_markGoing 44 = .ok (.goto 4, 3) := by decide +kernel
theorem dX4_markGoing_47 : decode cX4_markGoing 47 = .ok (.iconst 0, 1) := by decide +kernel
theorem dX4_markGoing_48 : decode cX4_markGoing 48 = .ok (.bastore, 1) := by decide +kernel
theorem dX4_markGoing_49 : decode cX4_markGoing 49 = .ok (.iinc 4 1, 3) := by decide +kernel
theorem dX4_markGoing_52 : decode cX4_markGoing 52 = .ok (.goto (-49), 3) := by decide +kernel
theorem dX4_markGoing_55 : decode cX4_markGoing 55 = .ok (.return_, 1) := by decide +kernel
set_option maxRecDepth 20000 in
theorem ggX4_spreadGoing_X4_losesTarget : GoodIn wsX4_spreadGoing wsX4_losesTarget := goodIn_r _ [9, 10, 4, 11, 12, 13, 14, 15, 16, 17, 18, 19, 20, 21, 22, 23, 24, 25, 26, 27, 28, 29, 30, 31, 32, 33, 34, 35, 36, 37, 38, 39, 40, 41, 42, 43, 44, 45, 46, 47, 48, 49, 50, 51, 52, 53, 54, 55, 56, 57, 58, 59, 60] (by decide +kernel) (by decide +kernel)
set_option maxRecDepth 20000 in
theorem gX4_spreadGoing_X4_losesTarget : GoodIn wsX4_spreadGoing (wsV RX4 205 RX4 yX4_losesTarget wsX4_losesTarget) := goodIn_app (goodIn_of _ (by decide +kernel)) ggX4_spreadGoing_X4_losesTarget
theorem dX4_spreadGoing_0 : decode cX4_spreadGoing 0 = .ok (.iconst 0, 1) := by decide +kernel
theorem dX4_spreadGoing_1 : decode cX4_spreadGoing 1 = .ok (.istore_n 1, 1) := by decide +kernel
theorem dX4_spreadGoing_2 : decode cX4_spreadGoing 2 = .ok (.iconst 0, 1) := by decide +kernel
theorem dX4_spreadGoing_3 : decode cX4_spreadGoing 3 = .ok (.istore_n 2, 1) := by decide +kernel
theorem dX4_spreadGoing_4 : decode cX4_spreadGoing 4 = .ok (.iload_n 2, 1) := by decide +kernel
theorem dX4_spreadGoing_5 : decode cX4_spreadGoing 5 = .ok (.aload_n 0, 1) := by decide +kernel
theorem dX4_spreadGoing_6 : decode cX4_spreadGoing 6 = .ok (.getfield 23, 3) := by decide +kernel
theorem dX4_spreadGoing_9 : decode cX4_spreadGoing 9 = .ok (.if_icmp .ge 68, 3) := by decide +kernel
theorem dX4_spreadGoing_12 : decode cX4_spreadGoing 12 = .ok (.iconst 0, 1) := by decide +kernel
theorem dX4_spreadGoing_13 : decode cX4_spreadGoing 13 = .ok (.istore_n 3, 1) := by decide +kernel
theorem dX4_spreadGoing_14 : decode cX4_spreadGoing 14 = .ok (.iload_n 3, 1) := by decide +kernel
theorem dX4_spreadGoing_15 : decode cX4_spreadGoing 15 = .ok (.bipush 24, 2) := by decide +kernel
theorem dX4_spreadGoing_17 : decode cX4_spreadGoing 17 = .ok (.if_icmp .ge 54, 3) := by decide +kernel
theorem dX4_spreadGoing_20 : decode cX4_spreadGoing 20 = .ok (.aload_n 0, 1) := by decide +kernel
theorem dX4_spreadGoing_21 : decode cX4_spreadGoing 21 = .ok (.getfield 19, 3) := by decide +kernel
theorem dX4_spreadGoing_24 : decode cX4_spreadGoing 24 = .ok (.iload_n 2, 1) := by decide +kernel
theorem dX4_spreadGoing_25 : decode cX4_spreadGoing 25 = .ok (.aaload, 1) := by decide +kernel
theorem dX4_spreadGoing_26 : decode cX4_spreadGoing 26 = .ok (.getfield 202, 3) := by decide +kernel
theorem dX4_spreadGoing_29 : decode cX4_spreadGoing 29 = .ok (.iconst 1, 1) := by decide +kernel
theorem dX4_spreadGoing_30 : decode cX4_spreadGoing 30 = .ok (.if_icmp .ne 35, 3) := by decide +kernel
theorem dX4_spreadGoing_33 : decode cX4_spreadGoing 33 = .ok (.aload_n 0, 1) := by decide +kernel
theorem dX4_spreadGoing_34 : decode cX4_spreadGoing 34 = .ok (.getfield 67, 3) := by decide +kernel
theorem dX4_spreadGoing_37 : decode cX4_spreadGoing 37 = .ok (.iload_n 3, 1) := by decide +kernel
theorem dX4_spreadGoing_38 : decode cX4_spreadGoing 38 = .ok (.baload, 1) := by decide +kernel
theorem dX4_spreadGoing_39 : decode cX4_spreadGoing 39 = .ok (.ifCond .ne 26, 3) := by decide +kernel
theorem dX4_spreadGoing_42 : decode cX4_spreadGoing 42 = .ok (.aload_n 0, 1) := by decide +kernel
theorem dX4_spreadGoing_43 : decode cX4_spreadGoing 43 = .ok (.aload_n 0, 1) := by decide +kernel
theorem dX4_spreadGoing_44 : decode cX4_spreadGoing 44 = .ok (.getfield 19, 3) := by decide +kernel
theorem dX4_spreadGoing_47 : decode cX4_spreadGoing 47 = .ok (.iload_n 2, 1) := by decide +kernel
theorem dX4_spreadGoing_48 : decode cX4_spreadGoing 48 = .ok (.aaload, 1) := by decide +kernel
theorem dX4_spreadGoing_49 : decode cX4_spreadGoing 49 = .ok (.iload_n 3, 1) := by decide +kernel
theorem dX4_spreadGoing_50 : decode cX4_spreadGoing 50 = .ok (.invokevirtual 205, 3) := by decide +kernel
theorem dX4_spreadGoing_53 : decode cX4_spreadGoing 53 = .ok (.ifCond .eq 12, 3) := by decide +kernel
theorem dX4_spreadGoing_56 : decode cX4_spreadGoing 56 = .ok (.aload_n 0, 1) := by decide +kernel
theorem dX4_spreadGoing_57 : decode cX4_spreadGoing 57 = .ok (.getfield 67, 3) := by decide +kernel
theorem dX4_spreadGoing_60 : decode cX4_spreadGoing 60 = .ok (.iload_n 3, 1) := by decide +kernel
theorem dX4_spreadGoing_61 : decode cX4_spreadGoing 61 = .ok (.iconst 1, 1) := by decide +kernel
theorem dX4_spreadGoing_62 : decode cX4_spreadGoing 62 = .ok (.bastore, 1) := by decide +kernel
theorem dX4_spreadGoing_63 : decode cX4_spreadGoing 63 = .ok (.iconst 1, 1) := by decide +kernel
theorem dX4_spreadGoing_64 : decode cX4_spreadGoing 64 = .ok (.istore_n 1, 1) := by decide +kernel
theorem dX4_spreadGoing_65 : decode cX4_spreadGoing 65 = .ok (.iinc 3 1, 3) := by decide +kernel
theorem dX4_spreadGoing_68 : decode cX4_spreadGoing 68 = .ok (.goto (-54), 3) := by decide +kernel
theorem dX4_spreadGoing_71 : decode cX4_spreadGoing 71 = .ok (.iinc 2 1, 3) := by decide +kernel
theorem dX4_spreadGoing_74 : decode cX4_spreadGoing 74 = .ok (.goto (-70), 3) := by decide +kernel
theorem dX4_spreadGoing_77 : decode cX4_spreadGoing 77 = .ok (.iload_n 1, 1) := by decide +kernel
theorem dX4_spreadGoing_78 : decode cX4_spreadGoing 78 = .ok (.ireturn, 1) := by decide +kernel
set_option maxRecDepth 20000 in
theorem ggX4_losesTarget_X1_target : GoodIn wsX4_losesTarget wsX1_target := goodIn_r _ [7, 8, 9, 10, 11, 12, 6, 13, 14, 15, 16, 17, 18, 19, 20, 21, 22, 23, 24, 25, 26, 27, 28, 29, 30, 47, 48, 49, 50, 51, 52] (by decide +kernel) (by decide +kernel)
set_option maxRecDepth 20000 in
theorem gX4_losesTarget_X1_target : GoodIn wsX4_losesTarget (wsV RX4 186 RX1 yX1_target wsX1_target) := goodIn_app (goodIn_of _ (by decide +kernel)) ggX4_losesTarget_X1_target
theorem dX4_losesTarget_0 : decode cX4_losesTarget 0 = .ok (.aload_n 1, 1) := by decide +kernel
theorem dX4_losesTarget_1 : decode cX4_losesTarget 1 = .ok (.aload_n 0, 1) := by decide +kernel
theorem dX4_losesTarget_2 : decode cX4_losesTarget 2 = .ok (.getfield 53, 3) := by decide +kernel
theorem dX4_losesTarget_5 : decode cX4_losesTarget 5 = .ok (.iload_n 2, 1) := by decide +kernel
theorem dX4_losesTarget_6 : decode cX4_losesTarget 6 = .ok (.invokevirtual 186, 3) := by decide +kernel
theorem dX4_losesTarget_9 : decode cX4_losesTarget 9 = .ok (.istore_n 3, 1) := by decide +kernel
theorem dX4_losesTarget_10 : decode cX4_losesTarget 10 = .ok (.iload_n 3, 1) := by decide +kernel
theorem dX4_losesTarget_11 : decode cX4_losesTarget 11 = .ok (.iconst (-1), 1) := by decide +kernel
theorem dX4_losesTarget_12 : decode cX4_losesTarget 12 = .ok (.if_icmp .eq 16, 3) := by decide +kernel
theorem dX4_losesTarget_15 : decode cX4_losesTarget 15 = .ok (.aload_n 0, 1) := by decide +kernel
theorem dX4_losesTarget_16 : decode cX4_losesTarget 16 = .ok (.getfield 67, 3) := by decide +kernel
theorem dX4_losesTarget_19 : decode cX4_losesTarget 19 = .ok (.iload_n 3, 1) := by decide +kernel
theorem dX4_losesTarget_20 : decode cX4_losesTarget 20 = .ok (.baload, 1) := by decide +kernel
theorem dX4_losesTarget_21 : decode cX4_losesTarget 21 = .ok (.ifCond .eq 7, 3) := by decide +kernel
theorem dX4_losesTarget_24 : decode cX4_losesTarget 24 = .ok (.iconst 1, 1) := by decide +kernel
theorem dX4_losesTarget_25 : decode cX4_losesTarget 25 = .ok (.goto 4, 3) := by decide +kernel
theorem dX4_losesTarget_28 : decode cX4_losesTarget 28 = .ok (.iconst 0, 1) := by decide +kernel
theorem dX4_losesTarget_29 : decode cX4_losesTarget 29 = .ok (.ireturn, 1) := by decide +kernel
set_option maxRecDepth 20000 in
theorem ggX4_removeGoing_X2_remove : GoodIn wsX4_removeGoing wsX2_remove := goodIn_r _ [7, 8, 25, 26] (by decide +kernel) (by decide +kernel)
set_option maxRecDepth 20000 in
theorem gX4_removeGoing_X2_remove : GoodIn wsX4_removeGoing (wsV RX4 209 RX2 yX2_remove wsX2_remove) := goodIn_app (goodIn_of _ (by decide +kernel)) ggX4_removeGoing_X2_remove
theorem dX4_removeGoing_0 : decode cX4_removeGoing 0 = .ok (.iconst 0, 1) := by decide +kernel
theorem dX4_removeGoing_1 : decode cX4_removeGoing 1 = .ok (.istore_n 1, 1) := by decide +kernel
theorem dX4_removeGoing_2 : decode cX4_removeGoing 2 = .ok (.iconst 0, 1) := by decide +kernel
theorem dX4_removeGoing_3 : decode cX4_removeGoing 3 = .ok (.istore_n 2, 1) := by decide +kernel
theorem dX4_removeGoing_4 : decode cX4_removeGoing 4 = .ok (.iload_n 2, 1) := by decide +kernel
theorem dX4_removeGoing_5 : decode cX4_removeGoing 5 = .ok (.bipush 24, 2) := by decide +kernel
theorem dX4_removeGoing_7 : decode cX4_removeGoing 7 = .ok (.if_icmp .ge 29, 3) := by decide +kernel
theorem dX4_removeGoing_10 : decode cX4_removeGoing 10 = .ok (.aload_n 0, 1) := by decide +kernel
theorem dX4_removeGoing_11 : decode cX4_removeGoing 11 = .ok (.getfield 67, 3) := by decide +kernel
theorem dX4_removeGoing_14 : decode cX4_removeGoing 14 = .ok (.iload_n 2, 1) := by decide +kernel
theorem dX4_removeGoing_15 : decode cX4_removeGoing 15 = .ok (.baload, 1) := by decide +kernel
theorem dX4_removeGoing_16 : decode cX4_removeGoing 16 = .ok (.ifCond .eq 14, 3) := by decide +kernel
theorem dX4_removeGoing_19 : decode cX4_removeGoing 19 = .ok (.aload_n 0, 1) := by decide +kernel
theorem dX4_removeGoing_20 : decode cX4_removeGoing 20 = .ok (.getfield 57, 3) := by decide +kernel
theorem dX4_removeGoing_23 : decode cX4_removeGoing 23 = .ok (.iload_n 2, 1) := by decide +kernel
theorem dX4_removeGoing_24 : decode cX4_removeGoing 24 = .ok (.invokevirtual 209, 3) := by decide +kernel
theorem dX4_removeGoing_27 : decode cX4_removeGoing 27 = .ok (.iinc 1 1, 3) := by decide +kernel
theorem dX4_removeGoing_30 : decode cX4_removeGoing 30 = .ok (.iinc 2 1, 3) := by decide +kernel
theorem dX4_removeGoing_33 : decode cX4_removeGoing 33 = .ok (.goto (-29), 3) := by decide +kernel
theorem dX4_removeGoing_36 : decode cX4_removeGoing 36 = .ok (.iload_n 1, 1) := by decide +kernel
theorem dX4_removeGoing_37 : decode cX4_removeGoing 37 = .ok (.ireturn, 1) := by decide +kernel
set_option maxRecDepth 20000 in
theorem ggX4_loosenFromGoing_X4_losesTarget : GoodIn wsX4_loosenFromGoing wsX4_losesTarget := goodIn_r _ [11, 12, 2, 13, 14, 15, 16, 17, 18, 19, 20, 21, 22, 23, 24, 25, 26, 27, 28, 29, 30, 31, 32, 33, 34, 35, 36, 37, 38, 39, 40, 45, 46, 47, 48, 49, 50, 51, 52, 53, 54, 55, 56, 57, 58, 59, 60, 61, 62, 63, 64, 65, 66] (by decide +kernel) (by decide +kernel)
set_option maxRecDepth 20000 in
theorem gX4_loosenFromGoing_X4_losesTarget : GoodIn wsX4_loosenFromGoing (wsV RX4 205 RX4 yX4_losesTarget wsX4_losesTarget) := goodIn_app (goodIn_of _ (by decide +kernel)) ggX4_loosenFromGoing_X4_losesTarget
set_option maxRecDepth 20000 in
theorem ggX4_loosenFromGoing_X2_put : GoodIn wsX4_loosenFromGoing wsX2_put := goodIn_r _ [44, 35, 65, 66] (by decide +kernel) (by decide +kernel)
set_option maxRecDepth 20000 in
theorem gX4_loosenFromGoing_X2_put : GoodIn wsX4_loosenFromGoing (wsV RX4 132 RX2 yX2_put wsX2_put) := goodIn_app (goodIn_of _ (by decide +kernel)) ggX4_loosenFromGoing_X2_put
theorem dX4_loosenFromGoing_0 : decode cX4_loosenFromGoing 0 = .ok (.iconst (-1), 1) := by decide +kernel
theorem dX4_loosenFromGoing_1 : decode cX4_loosenFromGoing 1 = .ok (.istore_n 1, 1) := by decide +kernel
theorem dX4_loosenFromGoing_2 : decode cX4_loosenFromGoing 2 = .ok (.aload_n 0, 1) := by decide +kernel
theorem dX4_loosenFromGoing_3 : decode cX4_loosenFromGoing 3 = .ok (.getfield 23, 3) := by decide +kernel
theorem dX4_loosenFromGoing_6 : decode cX4_loosenFromGoing 6 = .ok (.iconst 1, 1) := by decide +kernel
theorem dX4_loosenFromGoing_7 : decode cX4_loosenFromGoing 7 = .ok (.isub, 1) := by decide +kernel
theorem dX4_loosenFromGoing_8 : decode cX4_loosenFromGoing 8 = .ok (.istore_n 2, 1) := by decide +kernel
theorem dX4_loosenFromGoing_9 : decode cX4_loosenFromGoing 9 = .ok (.iload_n 2, 1) := by decide +kernel
theorem dX4_loosenFromGoing_10 : decode cX4_loosenFromGoing 10 = .ok (.ifCond .lt 97, 3) := by decide +kernel
theorem dX4_loosenFromGoing_13 : decode cX4_loosenFromGoing 13 = .ok (.iconst 0, 1) := by decide +kernel
theorem dX4_loosenFromGoing_14 : decode cX4_loosenFromGoing 14 = .ok (.istore_n 3, 1) := by decide +kernel
theorem dX4_loosenFromGoing_15 : decode cX4_loosenFromGoing 15 = .ok (.iload_n 3, 1) := by decide +kernel
theorem dX4_loosenFromGoing_16 : decode cX4_loosenFromGoing 16 = .ok (.bipush 24, 2) := by decide +kernel
theorem dX4_loosenFromGoing_18 : decode cX4_loosenFromGoing 18 = .ok (.if_icmp .ge 83, 3) := by decide +kernel
theorem dX4_loosenFromGoing_21 : decode cX4_loosenFromGoing 21 = .ok (.aload_n 0, 1) := by decide +kernel
theorem dX4_loosenFromGoing_22 : decode cX4_loosenFromGoing 22 = .ok (.getfield 67, 3) := by decide +kernel
theorem dX4_loosenFromGoing_25 : decode cX4_loosenFromGoing 25 = .ok (.iload_n 3, 1) := by decide +kernel
theorem dX4_loosenFromGoing_26 : decode cX4_loosenFromGoing 26 = .ok (.baload, 1) := by decide +kernel
theorem dX4_loosenFromGoing_27 : decode cX4_loosenFromGoing 27 = .ok (.ifCond .ne 68, 3) := by decide +kernel
theorem dX4_loosenFromGoing_30 : decode cX4_loosenFromGoing 30 = .ok (.aload_n 0, 1) := by decide +kernel
theorem dX4_loosenFromGoing_31 : decode cX4_loosenFromGoing 31 = .ok (.aload_n 0, 1) := by decide +kernel
theorem dX4_loosenFromGoing_32 : decode cX4_loosenFromGoing 32 = .ok (.getfield 19, 3) := by decide +kernel
theorem dX4_loosenFromGoing_35 : decode cX4_loosenFromGoing 35 = .ok (.iload_n 2, 1) := by decide +kernel
theorem dX4_loosenFromGoing_36 : decode cX4_loosenFromGoing 36 = .ok (.aaload, 1) := by decide +kernel
theorem dX4_loosenFromGoing_37 : decode cX4_loosenFromGoing 37 = .ok (.iload_n 3, 1) := by decide +kernel
theorem dX4_loosenFromGoing_38 : decode cX4_loosenFromGoing 38 = .ok (.invokevirtual 205, 3) := by decide +kernel
theorem dX4_loosenFromGoing_41 : decode cX4_loosenFromGoing 41 = .ok (.ifCond .ne 6, 3) := by decide +kernel
theorem dX4_loosenFromGoing_44 : decode cX4_loosenFromGoing 44 = .ok (.goto 51, 3) := by decide +kernel
theorem dX4_loosenFromGoing_47 : decode cX4_loosenFromGoing 47 = .ok (.aload_n 0, 1) := by decide +kernel
theorem dX4_loosenFromGoing_48 : decode cX4_loosenFromGoing 48 = .ok (.getfield 19, 3) := by decide +kernel
theorem dX4_loosenFromGoing_51 : decode cX4_loosenFromGoing 51 = .ok (.iload_n 2, 1) := by decide +kernel
theorem dX4_loosenFromGoing_52 : decode cX4_loosenFromGoing 52 = .ok (.aaload, 1) := by decide +kernel
theorem dX4_loosenFromGoing_53 : decode cX4_loosenFromGoing 53 = .ok (.getfield 202, 3) := by decide +kernel
theorem dX4_loosenFromGoing_56 : decode cX4_loosenFromGoing 56 = .ok (.ifCond .ne 8, 3) := by decide +kernel
theorem dX4_loosenFromGoing_59 : decode cX4_loosenFromGoing 59 = .ok (.iload_n 2, 1) := by decide +kernel
theorem dX4_loosenFromGoing_60 : decode cX4_loosenFromGoing 60 = .ok (.istore_n 1, 1) := by decide +kernel
theorem dX4_loosenFromGoing_61 : decode cX4_loosenFromGoing 61 = .ok (.goto 34, 3) := by decide +kernel
theorem dX4_loosenFromGoing_64 : decode cX4_loosenFromGoing 64 = .ok (.aload_n 0, 1) := by decide +kernel
theorem dX4_loosenFromGoing_65 : decode cX4_loosenFromGoing 65 = .ok (.getfield 19, 3) := by decide +kernel
theorem dX4_loosenFromGoing_68 : decode cX4_loosenFromGoing 68 = .ok (.iload_n 2, 1) := by decide +kernel
theorem dX4_loosenFromGoing_69 : decode cX4_loosenFromGoing 69 = .ok (.aaload, 1) := by decide +kernel
theorem dX4_loosenFromGoing_70 : decode cX4_loosenFromGoing 70 = .ok (.getfield 202, 3) := by decide +kernel
theorem dX4_loosenFromGoing_73 : decode cX4_loosenFromGoing 73 = .ok (.iconst 2, 1) := by decide +kernel
theorem dX4_loosenFromGoing_74 : decode cX4_loosenFromGoing 74 = .ok (.if_icmp .ne 21, 3) := by decide +kernel
theorem dX4_loosenFromGoing_77 : decode cX4_loosenFromGoing 77 = .ok (.aload_n 0, 1) := by decide +kernel
theorem dX4_loosenFromGoing_78 : decode cX4_loosenFromGoing 78 = .ok (.getfield 57, 3) := by decide +kernel
theorem dX4_loosenFromGoing_81 : decode cX4_loosenFromGoing 81 = .ok (.iload_n 3, 1) := by decide +kernel
theorem dX4_loosenFromGoing_82 : decode cX4_loosenFromGoing 82 = .ok (.aload_n 0, 1) := by decide +kernel
theorem dX4_loosenFromGoing_83 : decode cX4_loosenFromGoing 83 = .ok (.getfield 19, 3) := by decide +kernel
theorem dX4_loosenFromGoing_86 : decode cX4_loosenFromGoing 86 = .ok (.iload_n 2, 1) := by decide +kernel
theorem dX4_loosenFromGoing_87 : decode cX4_loosenFromGoing 87 = .ok (.aaload, 1) := by decide +kernel
theorem dX4_loosenFromGoing_88 : decode cX4_loosenFromGoing 88 = .ok (.getfield 212, 3) := by decide +kernel
theorem dX4_loosenFromGoing_91 : decode cX4_loosenFromGoing 91 = .ok (.iconst 0, 1) := by decide +kernel
theorem dX4_loosenFromGoing_92 : decode cX4_loosenFromGoing 92 = .ok (.invokevirtual 132, 3) := by decide +kernel
theorem dX4_loosenFromGoing_95 : decode cX4_loosenFromGoing 95 = .ok (.iinc 3 1, 3) := by decide +kernel
theorem dX4_loosenFromGoing_98 : decode cX4_loosenFromGoing 98 = .ok (.goto (-83), 3) := by decide +kernel
theorem dX4_loosenFromGoing_101 : decode cX4_loosenFromGoing 101 = .ok (.iinc 2 (-1), 3) := by decide +kernel
theorem dX4_loosenFromGoing_104 : decode cX4_loosenFromGoing 104 = .ok (.goto (-95), 3) := by decide +kernel
theorem dX4_loosenFromGoing_107 : decode cX4_loosenFromGoing 107 = .ok (.iload_n 1, 1) := by decide +kernel
theorem dX4_loosenFromGoing_108 : decode cX4_loosenFromGoing 108 = .ok (.ireturn, 1) := by decide +kernel
set_option maxRecDepth 20000 in
theorem ggX4_passOnKey_X1_target : GoodIn wsX4_passOnKey wsX1_target := goodIn_r _ [11, 12, 13, 14, 15, 16, 10, 17, 18, 19, 20, 21, 22, 23, 24, 25, 26, 27, 28, 29, 30, 31, 32, 33, 34, 55, 56, 57, 58, 59, 60] (by decide +kernel) (by decide +kernel)
set_option maxRecDepth 20000 in
theorem gX4_passOnKey_X1_target : GoodIn wsX4_passOnKey (wsV RX4 186 RX1 yX1_target wsX1_target) := goodIn_app (goodIn_of _ (by decide +kernel)) ggX4_passOnKey_X1_target
set_option maxRecDepth 20000 in
theorem ggX4_passOnKey_X2_put : GoodIn wsX4_passOnKey wsX2_put := goodIn_r _ [38, 29, 59, 60] (by decide +kernel) (by decide +kernel)
set_option maxRecDepth 20000 in
theorem gX4_passOnKey_X2_put : GoodIn wsX4_passOnKey (wsV RX4 132 RX2 yX2_put wsX2_put) := goodIn_app (goodIn_of _ (by decide +kernel)) ggX4_passOnKey_X2_put
theorem dX4_passOnKey_0 : decode cX4_passOnKey 0 = .ok (.iconst (-1), 1) := by decide +kernel
theorem dX4_passOnKey_1 : decode cX4_passOnKey 1 = .ok (.istore_n 3, 1) := by decide +kernel
theorem dX4_passOnKey_2 : decode cX4_passOnKey 2 = .ok (.aload_n 0, 1) := by decide +kernel
theorem dX4_passOnKey_3 : decode cX4_passOnKey 3 = .ok (.getfield 23, 3) := by decide +kernel
theorem dX4_passOnKey_6 : decode cX4_passOnKey 6 = .ok (.iconst 1, 1) := by decide +kernel
theorem dX4_passOnKey_7 : decode cX4_passOnKey 7 = .ok (.isub, 1) := by decide +kernel
theorem dX4_passOnKey_8 : decode cX4_passOnKey 8 = .ok (.istore 4, 2) := by decide +kernel
theorem dX4_passOnKey_10 : decode cX4_passOnKey 10 = .ok (.iload 4, 2) := by decide +kernel
theorem dX4_passOnKey_12 : decode cX4_passOnKey 12 = .ok (.ifCond .lt 105, 3) := by decide +kernel
theorem dX4_passOnKey_15 : decode cX4_passOnKey 15 = .ok (.iconst 0, 1) := by decide +kernel
theorem dX4_passOnKey_16 : decode cX4_passOnKey 16 = .ok (.istore 5, 2) := by decide +kernel
theorem dX4_passOnKey_18 : decode cX4_passOnKey 18 = .ok (.iload 5, 2) := by decide +kernel
theorem dX4_passOnKey_20 : decode cX4_passOnKey 20 = .ok (.bipush 24, 2) := by decide +kernel
theorem dX4_passOnKey_22 : decode cX4_passOnKey 22 = .ok (.if_icmp .ge 89, 3) := by decide +kernel
theorem dX4_passOnKey_25 : decode cX4_passOnKey 25 = .ok (.aload_n 0, 1) := by decide +kernel
theorem dX4_passOnKey_26 : decode cX4_passOnKey 26 = .ok (.getfield 19, 3) := by decide +kernel
theorem dX4_passOnKey_29 : decode cX4_passOnKey 29 = .ok (.iload 4, 2) := by decide +kernel
theorem dX4_passOnKey_31 : decode cX4_passOnKey 31 = .ok (.aaload, 1) := by decide +kernel
theorem dX4_passOnKey_32 : decode cX4_passOnKey 32 = .ok (.aload_n 0, 1) := by decide +kernel
theorem dX4_passOnKey_33 : decode cX4_passOnKey 33 = .ok (.getfield 53, 3) := by decide +kernel
theorem dX4_passOnKey_36 : decode cX4_passOnKey 36 = .ok (.iload 5, 2) := by decide +kernel
theorem dX4_passOnKey_38 : decode cX4_passOnKey 38 = .ok (.invokevirtual 186, 3) := by decide +kernel
theorem dX4_passOnKey_41 : decode cX4_passOnKey 41 = .ok (.iload_n 1, 1) := by decide +kernel
theorem dX4_passOnKey_42 : decode cX4_passOnKey 42 = .ok (.if_icmp .eq 6, 3) := by decide +kernel
theorem dX4_passOnKey_45 : decode cX4_passOnKey 45 = .ok (.goto 60, 3) := by decide +kernel
theorem dX4_passOnKey_48 : decode cX4_passOnKey 48 = .ok (.aload_n 0, 1) := by decide +kernel
theorem dX4_passOnKey_49 : decode cX4_passOnKey 49 = .ok (.getfield 19, 3) := by decide +kernel
theorem dX4_passOnKey_52 : decode cX4_passOnKey 52 = .ok (.iload 4, 2) := by decide +kernel
theorem dX4_passOnKey_54 : decode cX4_passOnKey 54 = .ok (.aaload, 1) := by decide +kernel
theorem dX4_passOnKey_55 : decode cX4_passOnKey 55 = .ok (.getfield 202, 3) := by decide +kernel
theorem dX4_passOnKey_58 : decode cX4_passOnKey 58 = .ok (.ifCond .ne 9, 3) := by decide +kernel
theorem dX4_passOnKey_61 : decode cX4_passOnKey 61 = .ok (.iload 4, 2) := by decide +kernel
theorem dX4_passOnKey_63 : decode cX4_passOnKey 63 = .ok (.istore_n 3, 1) := by decide +kernel
theorem dX4_passOnKey_64 : decode cX4_passOnKey 64 = .ok (.goto 41, 3) := by decide +kernel
theorem dX4_passOnKey_67 : decode cX4_passOnKey 67 = .ok (.aload_n 0, 1) := by decide +kernel
theorem dX4_passOnKey_68 : decode cX4_passOnKey 68 = .ok (.getfield 57, 3) := by decide +kernel
theorem dX4_passOnKey_71 : decode cX4_passOnKey 71 = .ok (.iload 5, 2) := by decide +kernel
theorem dX4_passOnKey_73 : decode cX4_passOnKey 73 = .ok (.aload_n 0, 1) := by decide +kernel
theorem dX4_passOnKey_74 : decode cX4_passOnKey 74 = .ok (.getfield 19, 3) := by decide +kernel
theorem dX4_passOnKey_77 : decode cX4_passOnKey 77 = .ok (.iload 4, 2) := by decide +kernel
theorem dX4_passOnKey_79 : decode cX4_passOnKey 79 = .ok (.aaload, 1) := by decide +kernel
theorem dX4_passOnKey_80 : decode cX4_passOnKey 80 = .ok (.getfield 212, 3) := by decide +kernel
theorem dX4_passOnKey_83 : decode cX4_passOnKey 83 = .ok (.aload_n 0, 1) := by decide +kernel
theorem dX4_passOnKey_84 : decode cX4_passOnKey 84 = .ok (.getfield 19, 3) := by decide +kernel
theorem dX4_passOnKey_87 : decode cX4_passOnKey 87 = .ok (.iload 4, 2) := by decide +kernel
theorem dX4_passOnKey_89 : decode cX4_passOnKey 89 = .ok (.aaload, 1) := by decide +kernel
theorem dX4_passOnKey_90 : decode cX4_passOnKey 90 = .ok (.getfield 202, 3) := by decide +kernel
theorem dX4_passOnKey_93 : decode cX4_passOnKey 93 = .ok (.iconst 1, 1) := by decide +kernel
theorem dX4_passOnKey_94 : decode cX4_passOnKey 94 = .ok (.if_icmp .ne 7, 3) := by decide +kernel
theorem dX4_passOnKey_97 : decode cX4_passOnKey 97 = .ok (.iload_n 2, 1) := by decide +kernel
theorem dX4_passOnKey_98 : decode cX4_passOnKey 98 = .ok (.goto 4, 3) := by decide +kernel
theorem dX4_passOnKey_101 : decode cX4_passOnKey 101 = .ok (.iconst 0, 1) := by decide +kernel
theorem dX4_passOnKey_102 : decode cX4_passOnKey 102 = .ok (.invokevirtual 132, 3) := by decide +kernel
theorem dX4_passOnKey_105 : decode cX4_passOnKey 105 = .ok (.iinc 5 1, 3) := by decide +kernel
theorem dX4_passOnKey_108 : decode cX4_passOnKey 108 = .ok (.goto (-90), 3) := by decide +kernel
theorem dX4_passOnKey_111 : decode cX4_passOnKey 111 = .ok (.iinc 4 (-1), 3) := by decide +kernel
theorem dX4_passOnKey_114 : decode cX4_passOnKey 114 = .ok (.goto (-104), 3) := by decide +kernel
theorem dX4_passOnKey_117 : decode cX4_passOnKey 117 = .ok (.iload_n 3, 1) := by decide +kernel
theorem dX4_passOnKey_118 : decode cX4_passOnKey 118 = .ok (.ireturn, 1) := by decide +kernel
end
section
theorem dX5_init_0 : decode cX5_init 0 = .ok (.aload_n 0, 1) := by decide +kernel
theorem dX5_init_1 : decode cX5_init 1 = .ok (.invokespecial 1, 3) := by decide +kernel
theorem dX5_init_4 : decode cX5_init 4 = .ok (.aload_n 0, 1) := by decide +kernel
theorem dX5_init_5 : decode cX5_init 5 = .ok (.iconst 4, 1) := by decide +kernel
theorem dX5_init_6 : decode cX5_init 6 = .ok (.newarray .int, 2) := by decide +kernel
theorem dX5_init_8 : decode cX5_init 8 = .ok (.putfield 7, 3) := by decide +kernel
theorem dX5_init_11 : decode cX5_init 11 = .ok (.aload_n 0, 1) := by decide +kernel
theorem dX5_init_12 : decode cX5_init 12 = .ok (.bipush 24, 2) := by decide +kernel
theorem dX5_init_14 : decode cX5_init 14 = .ok (.newarray .int, 2) := by decide +kernel
theorem dX5_init_16 : decode cX5_init 16 = .ok (.putfield 13, 3) := by decide +kernel
theorem dX5_init_19 : decode cX5_init 19 = .ok (.aload_n 0, 1) := by decide +kernel
theorem dX5_init_20 : decode cX5_init 20 = .ok (.bipush 96, 2) := by decide +kernel
theorem dX5_init_22 : decode cX5_init 22 = .ok (.newarray .int, 2) := by decide +kernel
theorem dX5_init_24 : decode cX5_init 24 = .ok (.putfield 16, 3) := by decide +kernel
theorem dX5_init_27 : decode cX5_init 27 = .ok (.aload_n 0, 1) := by decide +kernel
theorem dX5_init_28 : decode cX5_init 28 = .ok (.bipush 24, 2) := by decide +kernel
theorem dX5_init_30 : decode cX5_init 30 = .ok (.newarray .int, 2) := by decide +kernel
theorem dX5_init_32 : decode cX5_init 32 = .ok (.putfield 19, 3) := by decide +kernel
theorem dX5_init_35 : decode cX5_init 35 = .ok (.aload_n 0, 1) := by decide +kernel
theorem dX5_init_36 : decode cX5_init 36 = .ok (.bipush 96, 2) := by decide +kernel
theorem dX5_init_38 : decode cX5_init 38 = .ok (.newarray .int, 2) := by decide +kernel
theorem dX5_init_40 : decode cX5_init 40 = .ok (.putfield 22, 3) := by decide +kernel
theorem dX5_init_43 : decode cX5_init 43 = .ok (.aload_n 0, 1) := by decide +kernel
theorem dX5_init_44 : decode cX5_init 44 = .ok (.bipush 24, 2) := by decide +kernel
theorem dX5_init_46 : decode cX5_init 46 = .ok (.newarray .boolean, 2) := by decide +kernel
theorem dX5_init_48 : decode cX5_init 48 = .ok (.putfield 25, 3) := by decide +kernel
theorem dX5_init_51 : decode cX5_init 51 = .ok (.aload_n 0, 1) := by decide +kernel
theorem dX5_init_52 : decode cX5_init 52 = .ok (.bipush 7, 2) := by decide +kernel
theorem dX5_init_54 : decode cX5_init 54 = .ok (.newarray .int, 2) := by decide +kernel
theorem dX5_init_56 : decode cX5_init 56 = .ok (.putfield 29, 3) := by decide +kernel
theorem dX5_init_59 : decode cX5_init 59 = .ok (.aload_n 0, 1) := by decide +kernel
theorem dX5_init_60 : decode cX5_init 60 = .ok (.bipush 7, 2) := by decide +kernel
theorem dX5_init_62 : decode cX5_init 62 = .ok (.newarray .int, 2) := by decide +kernel
theorem dX5_init_64 : decode cX5_init 64 = .ok (.putfield 32, 3) := by decide +kernel
theorem dX5_init_67 : decode cX5_init 67 = .ok (.aload_n 0, 1) := by decide +kernel
theorem dX5_init_68 : decode cX5_init 68 = .ok (.bipush 7, 2) := by decide +kernel
theorem dX5_init_70 : decode cX5_init 70 = .ok (.newarray .int, 2) := by decide +kernel
theorem dX5_init_72 : decode cX5_init 72 = .ok (.putfield 35, 3) := by decide +kernel
theorem dX5_init_75 : decode cX5_init 75 = .ok (.aload_n 0, 1) := by decide +kernel
theorem dX5_init_76 : decode cX5_init 76 = .ok (.bipush 7, 2) := by decide +kernel
theorem dX5_init_78 : decode cX5_init 78 = .ok (.newarray .int, 2) := by decide +kernel
theorem dX5_init_80 : decode cX5_init 80 = .ok (.putfield 38, 3) := by decide +kernel
theorem dX5_init_83 : decode cX5_init 83 = .ok (.aload_n 0, 1) := by decide +kernel
theorem dX5_init_84 : decode cX5_init 84 = .ok (.iconst 5, 1) := by decide +kernel
theorem dX5_init_85 : decode cX5_init 85 = .ok (.newarray .int, 2) := by decide +kernel
theorem dX5_init_87 : decode cX5_init 87 = .ok (.putfield 41, 3) := by decide +kernel
theorem dX5_init_90 : decode cX5_init 90 = .ok (.aload_n 0, 1) := by decide +kernel
theorem dX5_init_91 : decode cX5_init 91 = .ok (.iconst 5, 1) := by decide +kernel
theorem dX5_init_92 : decode cX5_init 92 = .ok (.newarray .int, 2) := by decide +kernel
theorem dX5_init_94 : decode cX5_init 94 = .ok (.putfield 44, 3) := by decide +kernel
theorem dX5_init_97 : decode cX5_init 97 = .ok (.aload_n 0, 1) := by decide +kernel
theorem dX5_init_98 : decode cX5_init 98 = .ok (.iconst 5, 1) := by decide +kernel
theorem dX5_init_99 : decode cX5_init 99 = .ok (.newarray .int, 2) := by decide +kernel
theorem dX5_init_101 : decode cX5_init 101 = .ok (.putfield 47, 3) := by decide +kernel
theorem dX5_init_104 : decode cX5_init 104 = .ok (.aload_n 0, 1) := by decide +kernel
theorem dX5_init_105 : decode cX5_init 105 = .ok (.iconst 5, 1) := by decide +kernel
theorem dX5_init_106 : decode cX5_init 106 = .ok (.newarray .int, 2) := by decide +kernel
theorem dX5_init_108 : decode cX5_init 108 = .ok (.putfield 50, 3) := by decide +kernel
theorem dX5_init_111 : decode cX5_init 111 = .ok (.aload_n 0, 1) := by decide +kernel
theorem dX5_init_112 : decode cX5_init 112 = .ok (.bipush 50, 2) := by decide +kernel
theorem dX5_init_114 : decode cX5_init 114 = .ok (.newarray .int, 2) := by decide +kernel
theorem dX5_init_116 : decode cX5_init 116 = .ok (.putfield 53, 3) := by decide +kernel
theorem dX5_init_119 : decode cX5_init 119 = .ok (.aload_n 0, 1) := by decide +kernel
theorem dX5_init_120 : decode cX5_init 120 = .ok (.bipush 10, 2) := by decide +kernel
theorem dX5_init_122 : decode cX5_init 122 = .ok (.newarray .int, 2) := by decide +kernel
theorem dX5_init_124 : decode cX5_init 124 = .ok (.putfield 56, 3) := by decide +kernel
theorem dX5_init_127 : decode cX5_init 127 = .ok (.aload_n 0, 1) := by decide +kernel
theorem dX5_init_128 : decode cX5_init 128 = .ok (.bipush 12, 2) := by decide +kernel
theorem dX5_init_130 : decode cX5_init 130 = .ok (.newarray .int, 2) := by decide +kernel
theorem dX5_init_132 : decode cX5_init 132 = .ok (.putfield 59, 3) := by decide +kernel
theorem dX5_init_135 : decode cX5_init 135 = .ok (.aload_n 0, 1) := by decide +kernel
theorem dX5_init_136 : decode cX5_init 136 = .ok (.iconst 4, 1) := by decide +kernel
theorem dX5_init_137 : decode cX5_init 137 = .ok (.newarray .int, 2) := by decide +kernel
theorem dX5_init_139 : decode cX5_init 139 = .ok (.putfield 62, 3) := by decide +kernel
theorem dX5_init_142 : decode cX5_init 142 = .ok (.aload_n 0, 1) := by decide +kernel
theorem dX5_init_143 : decode cX5_init 143 = .ok (.bipush 96, 2) := by decide +kernel
theorem dX5_init_145 : decode cX5_init 145 = .ok (.newarray .int, 2) := by decide +kernel
theorem dX5_init_147 : decode cX5_init 147 = .ok (.putfield 65, 3) := by decide +kernel
theorem dX5_init_150 : decode cX5_init 150 = .ok (.aload_n 0, 1) := by decide +kernel
theorem dX5_init_151 : decode cX5_init 151 = .ok (.sipush 384, 3) := by decide +kernel
theorem dX5_init_154 : decode cX5_init 154 = .ok (.newarray .int, 2) := by decide +kernel
theorem dX5_init_156 : decode cX5_init 156 = .ok (.putfield 68, 3) := by decide +kernel
theorem dX5_init_159 : decode cX5_init 159 = .ok (.return_, 1) := by decide +kernel
theorem dX5_thrown_0 : decode cX5_thrown 0 = .ok (.aload_n 0, 1) := by decide +kernel
theorem dX5_thrown_1 : decode cX5_thrown 1 = .ok (.getfield 71, 3) := by decide +kernel
theorem dX5_thrown_4 : decode cX5_thrown 4 = .ok (.ireturn, 1) := by decide +kernel
theorem dX5_isTable_0 : decode cX5_isTable 0 = .ok (.iload_n 1, 1) := by decide +kernel
theorem dX5_isTable_1 : decode cX5_isTable 1 = .ok (.ifCond .lt 15, 3) := by decide +kernel
theorem dX5_isTable_4 : decode cX5_isTable 4 = .ok (.iload_n 1, 1) := by decide +kernel
theorem dX5_isTable_5 : decode cX5_isTable 5 = .ok (.aload_n 0, 1) := by decide +kernel
theorem dX5_isTable_6 : decode cX5_isTable 6 = .ok (.getfield 75, 3) := by decide +kernel
theorem dX5_isTable_9 : decode cX5_isTable 9 = .ok (.if_icmp .ge 7, 3) := by decide +kernel
theorem dX5_isTable_12 : decode cX5_isTable 12 = .ok (.iconst 1, 1) := by decide +kernel
theorem dX5_isTable_13 : decode cX5_isTable 13 = .ok (.goto 4, 3) := by decide +kernel
theorem dX5_isTable_16 : decode cX5_isTable 16 = .ok (.iconst 0, 1) := by decide +kernel
theorem dX5_isTable_17 : decode cX5_isTable 17 = .ok (.ireturn, 1) := by decide +kernel
set_option maxRecDepth 20000 in
theorem ggX5_isColumn_X5_isTable : GoodIn wsX5_isColumn wsX5_isTable := goodIn_r _ [6, 7, 8, 9, 10, 11, 12, 13, 14, 15, 16, 17, 18, 19, 20, 21, 22, 23, 24, 25, 26, 27, 28, 29, 30, 31, 32, 33, 34, 35, 36, 37, 38] (by decide +kernel) (by decide +kernel)
set_option maxRecDepth 20000 in
theorem gX5_isColumn_X5_isTable : GoodIn wsX5_isColumn (wsV RX5 78 RX5 yX5_isTable wsX5_isTable) := goodIn_app (goodIn_of _ (by decide +kernel)) ggX5_isColumn_X5_isTable
theorem dX5_isColumn_0 : decode cX5_isColumn 0 = .ok (.aload_n 0, 1) := by decide +kernel
theorem dX5_isColumn_1 : decode cX5_isColumn 1 = .ok (.iload_n 1, 1) := by decide +kernel
theorem dX5_isColumn_2 : decode cX5_isColumn 2 = .ok (.invokevirtual 78, 3) := by decide +kernel
theorem dX5_isColumn_5 : decode cX5_isColumn 5 = .ok (.ifCond .eq 21, 3) := by decide +kernel
theorem dX5_isColumn_8 : decode cX5_isColumn 8 = .ok (.iload_n 2, 1) := by decide +kernel
theorem dX5_isColumn_9 : decode cX5_isColumn 9 = .ok (.ifCond .lt 17, 3) := by decide +kernel
theorem dX5_isColumn_12 : decode cX5_isColumn 12 = .ok (.iload_n 2, 1) := by decide +kernel
theorem dX5_isColumn_13 : decode cX5_isColumn 13 = .ok (.aload_n 0, 1) := by decide +kernel
theorem dX5_isColumn_14 : decode cX5_isColumn 14 = .ok (.getfield 7, 3) := by decide +kernel
theorem dX5_isColumn_17 : decode cX5_isColumn 17 = .ok (.iload_n 1, 1) := by decide +kernel
theorem dX5_isColumn_18 : decode cX5_isColumn 18 = .ok (.iaload, 1) := by decide +kernel
theorem dX5_isColumn_19 : decode cX5_isColumn 19 = .ok (.if_icmp .ge 7, 3) := by decide +kernel
theorem dX5_isColumn_22 : decode cX5_isColumn 22 = .ok (.iconst 1, 1) := by decide +kernel
theorem dX5_isColumn_23 : decode cX5_isColumn 23 = .ok (.goto 4, 3) := by decide +kernel
theorem dX5_isColumn_26 : decode cX5_isColumn 26 = .ok (.iconst 0, 1) := by decide +kernel
theorem dX5_isColumn_27 : decode cX5_isColumn 27 = .ok (.ireturn, 1) := by decide +kernel
theorem dX5_table_0 : decode cX5_table 0 = .ok (.aload_n 0, 1) := by decide +kernel
theorem dX5_table_1 : decode cX5_table 1 = .ok (.iload_n 1, 1) := by decide +kernel
theorem dX5_table_2 : decode cX5_table 2 = .ok (.iconst 2, 1) := by decide +kernel
theorem dX5_table_3 : decode cX5_table 3 = .ok (.if_icmp .lt 8, 3) := by decide +kernel
theorem dX5_table_6 : decode cX5_table 6 = .ok (.iload_n 1, 1) := by decide +kernel
theorem dX5_table_7 : decode cX5_table 7 = .ok (.iconst 4, 1) := by decide +kernel
theorem dX5_table_8 : decode cX5_table 8 = .ok (.if_icmp .le 7, 3) := by decide +kernel
theorem dX5_table_11 : decode cX5_table 11 = .ok (.iconst 1, 1) := by decide +kernel
theorem dX5_table_12 : decode cX5_table 12 = .ok (.goto 16, 3) := by decide +kernel
theorem dX5_table_15 : decode cX5_table 15 = .ok (.aload_n 0, 1) := by decide +kernel
theorem dX5_table_16 : decode cX5_table 16 = .ok (.getfield 75, 3) := by decide +kernel
theorem dX5_table_19 : decode cX5_table 19 = .ok (.iconst 4, 1) := by decide +kernel
theorem dX5_table_20 : decode cX5_table 20 = .ok (.if_icmp .ne 7, 3) := by decide +kernel
theorem dX5_table_23 : decode cX5_table 23 = .ok (.iconst 2, 1) := by decide +kernel
theorem dX5_table_24 : decode cX5_table 24 = .ok (.goto 4, 3) := by decide +kernel
theorem dX5_table_27 : decode cX5_table 27 = .ok (.iconst 0, 1) := by decide +kernel
theorem dX5_table_28 : decode cX5_table 28 = .ok (.putfield 71, 3) := by decide +kernel
theorem dX5_table_31 : decode cX5_table 31 = .ok (.aload_n 0, 1) := by decide +kernel
theorem dX5_table_32 : decode cX5_table 32 = .ok (.getfield 71, 3) := by decide +kernel
theorem dX5_table_35 : decode cX5_table 35 = .ok (.ifCond .le 5, 3) := by decide +kernel
theorem dX5_table_38 : decode cX5_table 38 = .ok (.iconst 0, 1) := by decide +kernel
theorem dX5_table_39 : decode cX5_table 39 = .ok (.ireturn, 1) := by decide +kernel
theorem dX5_table_40 : decode cX5_table 40 = .ok (.aload_n 0, 1) := by decide +kernel
theorem dX5_table_41 : decode cX5_table 41 = .ok (.getfield 7, 3) := by decide +kernel
theorem dX5_table_44 : decode cX5_table 44 = .ok (.aload_n 0, 1) := by decide +kernel
theorem dX5_table_45 : decode cX5_table 45 = .ok (.getfield 75, 3) := by decide +kernel
theorem dX5_table_48 : decode cX5_table 48 = .ok (.iload_n 1, 1) := by decide +kernel
theorem dX5_table_49 : decode cX5_table 49 = .ok (.iastore, 1) := by decide +kernel
theorem dX5_table_50 : decode cX5_table 50 = .ok (.aload_n 0, 1) := by decide +kernel
theorem dX5_table_51 : decode cX5_table 51 = .ok (.dup, 1) := by decide +kernel
theorem dX5_table_52 : decode cX5_table 52 = .ok (.getfield 75, 3) := by decide +kernel
theorem dX5_table_55 : decode cX5_table 55 = .ok (.iconst 1, 1) := by decide +kernel
theorem dX5_table_56 : decode cX5_table 56 = .ok (.iadd, 1) := by decide +kernel
theorem dX5_table_57 : decode cX5_table 57 = .ok (.putfield 75, 3) := by decide +kernel
theorem dX5_table_60 : decode cX5_table 60 = .ok (.aload_n 0, 1) := by decide +kernel
theorem dX5_table_61 : decode cX5_table 61 = .ok (.getfield 75, 3) := by decide +kernel
theorem dX5_table_64 : decode cX5_table 64 = .ok (.iconst 1, 1) := by decide +kernel
theorem dX5_table_65 : decode cX5_table 65 = .ok (.isub, 1) := by decide +kernel
theorem dX5_table_66 : decode cX5_table 66 = .ok (.ireturn, 1) := by decide +kernel
theorem dX5_find_0 : decode cX5_find 0 = .ok (.iconst (-1), 1) := by decide +kernel
theorem dX5_find_1 : decode cX5_find 1 = .ok (.istore_n 3, 1) := by decide +kernel
theorem dX5_find_2 : decode cX5_find 2 = .ok (.iconst 0, 1) := by decide +kernel
theorem dX5_find_3 : decode cX5_find 3 = .ok (.istore 4, 2) := by decide +kernel
theorem dX5_find_5 : decode cX5_find 5 = .ok (.iload 4, 2) := by decide +kernel
theorem dX5_find_7 : decode cX5_find 7 = .ok (.aload_n 0, 1) := by decide +kernel
theorem dX5_find_8 : decode cX5_find 8 = .ok (.getfield 82, 3) := by decide +kernel
theorem dX5_find_11 : decode cX5_find 11 = .ok (.if_icmp .ge 40, 3) := by decide +kernel
theorem dX5_find_14 : decode cX5_find 14 = .ok (.aload_n 0, 1) := by decide +kernel
theorem dX5_find_15 : decode cX5_find 15 = .ok (.getfield 13, 3) := by decide +kernel
theorem dX5_find_18 : decode cX5_find 18 = .ok (.iload 4, 2) := by decide +kernel
theorem dX5_find_20 : decode cX5_find 20 = .ok (.iaload, 1) := by decide +kernel
theorem dX5_find_21 : decode cX5_find 21 = .ok (.iload_n 1, 1) := by decide +kernel
theorem dX5_find_22 : decode cX5_find 22 = .ok (.if_icmp .ne 21, 3) := by decide +kernel
theorem dX5_find_25 : decode cX5_find 25 = .ok (.aload_n 0, 1) := by decide +kernel
theorem dX5_find_26 : decode cX5_find 26 = .ok (.getfield 16, 3) := by decide +kernel
theorem dX5_find_29 : decode cX5_find 29 = .ok (.iconst 4, 1) := by decide +kernel
theorem dX5_find_30 : decode cX5_find 30 = .ok (.iload 4, 2) := by decide +kernel
theorem dX5_find_32 : decode cX5_find 32 = .ok (.imul, 1) := by decide +kernel
theorem dX5_find_33 : decode cX5_find 33 = .ok (.iaload, 1) := by decide +kernel
theorem dX5_find_34 : decode cX5_find 34 = .ok (.iload_n 2, 1) := by decide +kernel
theorem dX5_find_35 : decode cX5_find 35 = .ok (.if_icmp .ne 8, 3) := by decide +kernel
theorem dX5_find_38 : decode cX5_find 38 = .ok (.iload 4, 2) := by decide +kernel
theorem dX5_find_40 : decode cX5_find 40 = .ok (.goto 4, 3) := by decide +kernel
theorem dX5_find_43 : decode cX5_find 43 = .ok (.iload_n 3, 1) := by decide +kernel
theorem dX5_find_44 : decode cX5_find 44 = .ok (.istore_n 3, 1) := by decide +kernel
theorem dX5_find_45 : decode cX5_find 45 = .ok (.iinc 4 1, 3) := by decide +kernel
theorem dX5_find_48 : decode cX5_find 48 = .ok (.goto (-43), 3) := by decide +kernel
theorem dX5_find_51 : decode cX5_find 51 = .ok (.iload_n 3, 1) := by decide +kernel
theorem dX5_find_52 : decode cX5_find 52 = .ok (.ireturn, 1) := by decide +kernel
set_option maxRecDepth 20000 in
theorem ggX5_breaksLink_X5_find : GoodIn wsX5_breaksLink wsX5_find := goodIn_r _ [11, 1, 4, 2, 12, 13, 14, 15, 16, 17, 18, 19, 20, 21, 22, 23, 24, 25, 26, 27, 28, 29, 30, 31, 32, 33, 34, 35, 36, 37, 38, 39, 40, 41, 42] (by decide +kernel) (by decide +kernel)
set_option maxRecDepth 20000 in
theorem gX5_breaksLink_X5_find : GoodIn wsX5_breaksLink (wsV RX5 85 RX5 yX5_find wsX5_find) := goodIn_app (goodIn_of _ (by decide +kernel)) ggX5_breaksLink_X5_find
theorem dX5_breaksLink_0 : decode cX5_breaksLink 0 = .ok (.iconst 0, 1) := by decide +kernel
theorem dX5_breaksLink_1 : decode cX5_breaksLink 1 = .ok (.istore_n 2, 1) := by decide +kernel
theorem dX5_breaksLink_2 : decode cX5_breaksLink 2 = .ok (.iload_n 2, 1) := by decide +kernel
theorem dX5_breaksLink_3 : decode cX5_breaksLink 3 = .ok (.aload_n 0, 1) := by decide +kernel
theorem dX5_breaksLink_4 : decode cX5_breaksLink 4 = .ok (.getfield 82, 3) := by decide +kernel
theorem dX5_breaksLink_7 : decode cX5_breaksLink 7 = .ok (.if_icmp .ge 60, 3) := by decide +kernel
theorem dX5_breaksLink_10 : decode cX5_breaksLink 10 = .ok (.aload_n 0, 1) := by decide +kernel
theorem dX5_breaksLink_11 : decode cX5_breaksLink 11 = .ok (.getfield 16, 3) := by decide +kernel
theorem dX5_breaksLink_14 : decode cX5_breaksLink 14 = .ok (.iconst 4, 1) := by decide +kernel
theorem dX5_breaksLink_15 : decode cX5_breaksLink 15 = .ok (.iload_n 2, 1) := by decide +kernel
theorem dX5_breaksLink_16 : decode cX5_breaksLink 16 = .ok (.imul, 1) := by decide +kernel
theorem dX5_breaksLink_17 : decode cX5_breaksLink 17 = .ok (.aload_n 0, 1) := by decide +kernel
theorem dX5_breaksLink_18 : decode cX5_breaksLink 18 = .ok (.getfield 32, 3) := by decide +kernel
theorem dX5_breaksLink_21 : decode cX5_breaksLink 21 = .ok (.iload_n 1, 1) := by decide +kernel
theorem dX5_breaksLink_22 : decode cX5_breaksLink 22 = .ok (.iaload, 1) := by decide +kernel
theorem dX5_breaksLink_23 : decode cX5_breaksLink 23 = .ok (.iadd, 1) := by decide +kernel
theorem dX5_breaksLink_24 : decode cX5_breaksLink 24 = .ok (.iaload, 1) := by decide +kernel
theorem dX5_breaksLink_25 : decode cX5_breaksLink 25 = .ok (.istore_n 3, 1) := by decide +kernel
theorem dX5_breaksLink_26 : decode cX5_breaksLink 26 = .ok (.aload_n 0, 1) := by decide +kernel
theorem dX5_breaksLink_27 : decode cX5_breaksLink 27 = .ok (.getfield 13, 3) := by decide +kernel
theorem dX5_breaksLink_30 : decode cX5_breaksLink 30 = .ok (.iload_n 2, 1) := by decide +kernel
theorem dX5_breaksLink_31 : decode cX5_breaksLink 31 = .ok (.iaload, 1) := by decide +kernel
theorem dX5_breaksLink_32 : decode cX5_breaksLink 32 = .ok (.aload_n 0, 1) := by decide +kernel
theorem dX5_breaksLink_33 : decode cX5_breaksLink 33 = .ok (.getfield 29, 3) := by decide +kernel
theorem dX5_breaksLink_36 : decode cX5_breaksLink 36 = .ok (.iload_n 1, 1) := by decide +kernel
theorem dX5_breaksLink_37 : decode cX5_breaksLink 37 = .ok (.iaload, 1) := by decide +kernel
theorem dX5_breaksLink_38 : decode cX5_breaksLink 38 = .ok (.if_icmp .ne 23, 3) := by decide +kernel
theorem dX5_breaksLink_41 : decode cX5_breaksLink 41 = .ok (.iload_n 3, 1) := by decide +kernel
theorem dX5_breaksLink_42 : decode cX5_breaksLink 42 = .ok (.ifCond .eq 19, 3) := by decide +kernel
theorem dX5_breaksLink_45 : decode cX5_breaksLink 45 = .ok (.aload_n 0, 1) := by decide +kernel
theorem dX5_breaksLink_46 : decode cX5_breaksLink 46 = .ok (.aload_n 0, 1) := by decide +kernel
theorem dX5_breaksLink_47 : decode cX5_breaksLink 47 = .ok (.getfield 35, 3) := by decide +kernel
theorem dX5_breaksLink_50 : decode cX5_breaksLink 50 = .ok (.iload_n 1, 1) := by decide +kernel
theorem dX5_breaksLink_51 : decode cX5_breaksLink 51 = .ok (.iaload, 1) := by decide +kernel
theorem dX5_breaksLink_52 : decode cX5_breaksLink 52 = .ok (.iload_n 3, 1) := by decide +kernel
theorem dX5_breaksLink_53 : decode cX5_breaksLink 53 = .ok (.invokevirtual 85, 3) := by decide +kernel
theorem dX5_breaksLink_56 : decode cX5_breaksLink 56 = .ok (.ifCond .ge 5, 3) := by decide +kernel
theorem dX5_breaksLink_59 : decode cX5_breaksLink 59 = .ok (.iconst 1, 1) := by decide +kernel
theorem dX5_breaksLink_60 : decode cX5_breaksLink 60 = .ok (.ireturn, 1) := by decide +kernel
theorem dX5_breaksLink_61 : decode cX5_breaksLink 61 = .ok (.iinc 2 1, 3) := by decide +kernel
theorem dX5_breaksLink_64 : decode cX5_breaksLink 64 = .ok (.goto (-62), 3) := by decide +kernel
theorem dX5_breaksLink_67 : decode cX5_breaksLink 67 = .ok (.iconst 0, 1) := by decide +kernel
theorem dX5_breaksLink_68 : decode cX5_breaksLink 68 = .ok (.ireturn, 1) := by decide +kernel
theorem dX5_twice_0 : decode cX5_twice 0 = .ok (.iconst 0, 1) := by decide +kernel
theorem dX5_twice_1 : decode cX5_twice 1 = .ok (.istore_n 3, 1) := by decide +kernel
theorem dX5_twice_2 : decode cX5_twice 2 = .ok (.iload_n 3, 1) := by decide +kernel
theorem dX5_twice_3 : decode cX5_twice 3 = .ok (.aload_n 0, 1) := by decide +kernel
theorem dX5_twice_4 : decode cX5_twice 4 = .ok (.getfield 82, 3) := by decide +kernel
theorem dX5_twice_7 : decode cX5_twice 7 = .ok (.if_icmp .ge 84, 3) := by decide +kernel
theorem dX5_twice_10 : decode cX5_twice 10 = .ok (.iconst 0, 1) := by decide +kernel
theorem dX5_twice_11 : decode cX5_twice 11 = .ok (.istore 4, 2) := by decide +kernel
theorem dX5_twice_13 : decode cX5_twice 13 = .ok (.iload 4, 2) := by decide +kernel
theorem dX5_twice_15 : decode cX5_twice 15 = .ok (.iload_n 3, 1) := by decide +kernel
theorem dX5_twice_16 : decode cX5_twice 16 = .ok (.if_icmp .ge 69, 3) := by decide +kernel
theorem dX5_twice_19 : decode cX5_twice 19 = .ok (.aload_n 0, 1) := by decide +kernel
theorem dX5_twice_20 : decode cX5_twice 20 = .ok (.getfield 13, 3) := by decide +kernel
theorem dX5_twice_23 : decode cX5_twice 23 = .ok (.iload_n 3, 1) := by decide +kernel
theorem dX5_twice_24 : decode cX5_twice 24 = .ok (.iaload, 1) := by decide +kernel
theorem dX5_twice_25 : decode cX5_twice 25 = .ok (.iload_n 1, 1) := by decide +kernel
theorem dX5_twice_26 : decode cX5_twice 26 = .ok (.if_icmp .ne 53, 3) := by decide +kernel
theorem dX5_twice_29 : decode cX5_twice 29 = .ok (.aload_n 0, 1) := by decide +kernel
theorem dX5_twice_30 : decode cX5_twice 30 = .ok (.getfield 13, 3) := by decide +kernel
theorem dX5_twice_33 : decode cX5_twice 33 = .ok (.iload 4, 2) := by decide +kernel
theorem dX5_twice_35 : decode cX5_twice 35 = .ok (.iaload, 1) := by decide +kernel
theorem dX5_twice_36 : decode cX5_twice 36 = .ok (.iload_n 1, 1) := by decide +kernel
theorem dX5_twice_37 : decode cX5_twice 37 = .ok (.if_icmp .ne 42, 3) := by decide +kernel
theorem dX5_twice_40 : decode cX5_twice 40 = .ok (.aload_n 0, 1) := by decide +kernel
theorem dX5_twice_41 : decode cX5_twice 41 = .ok (.getfield 16, 3) := by decide +kernel
theorem dX5_twice_44 : decode cX5_twice 44 = .ok (.iconst 4, 1) := by decide +kernel
theorem dX5_twice_45 : decode cX5_twice 45 = .ok (.iload_n 3, 1) := by decide +kernel
theorem dX5_twice_46 : decode cX5_twice 46 = .ok (.imul, 1) := by decide +kernel
theorem dX5_twice_47 : decode cX5_twice 47 = .ok (.iload_n 2, 1) := by decide +kernel
theorem dX5_twice_48 : decode cX5_twice 48 = .ok (.iadd, 1) := by decide +kernel
theorem dX5_twice_49 : decode cX5_twice 49 = .ok (.iaload, 1) := by decide +kernel
theorem dX5_twice_50 : decode cX5_twice 50 = .ok (.aload_n 0, 1) := by decide +kernel
theorem dX5_twice_51 : decode cX5_twice 51 = .ok (.getfield 16, 3) := by decide +kernel
theorem dX5_twice_54 : decode cX5_twice 54 = .ok (.iconst 4, 1) := by decide +kernel
theorem dX5_twice_55 : decode cX5_twice 55 = .ok (.iload 4, 2) := by decide +kernel
theorem dX5_twice_57 : decode cX5_twice 57 = .ok (.imul, 1) := by decide +kernel
theorem dX5_twice_58 : decode cX5_twice 58 = .ok (.iload_n 2, 1) := by decide +kernel
theorem dX5_twice_59 : decode cX5_twice 59 = .ok (.iadd, 1) := by decide +kernel
theorem dX5_twice_60 : decode cX5_twice 60 = .ok (.iaload, 1) := by decide +kernel
theorem dX5_twice_61 : decode cX5_twice 61 = .ok (.if_icmp .ne 18, 3) := by decide +kernel
theorem dX5_twice_64 : decode cX5_twice 64 = .ok (.aload_n 0, 1) := by decide +kernel
theorem dX5_twice_65 : decode cX5_twice 65 = .ok (.getfield 16, 3) := by decide +kernel
theorem dX5_twice_68 : decode cX5_twice 68 = .ok (.iconst 4, 1) := by decide +kernel
theorem dX5_twice_69 : decode cX5_twice 69 = .ok (.iload_n 3, 1) := by decide +kernel
theorem dX5_twice_70 : decode cX5_twice 70 = .ok (.imul, 1) := by decide +kernel
theorem dX5_twice_71 : decode cX5_twice 71 = .ok (.iload_n 2, 1) := by decide +kernel
theorem dX5_twice_72 : decode cX5_twice 72 = .ok (.iadd, 1) := by decide +kernel
theorem dX5_twice_73 : decode cX5_twice 73 = .ok (.iaload, 1) := by decide +kernel
theorem dX5_twice_74 : decode cX5_twice 74 = .ok (.ifCond .eq 5, 3) := by decide +kernel
theorem dX5_twice_77 : decode cX5_twice 77 = .ok (.iconst 1, 1) := by decide +kernel
theorem dX5_twice_78 : decode cX5_twice 78 = .ok (.ireturn, 1) := by decide +kernel
theorem dX5_twice_79 : decode cX5_twice 79 = .ok (.iinc 4 1, 3) := by decide +kernel
theorem dX5_twice_82 : decode cX5_twice 82 = .ok (.goto (-69), 3) := by decide +kernel
theorem dX5_twice_85 : decode cX5_twice 85 = .ok (.iinc 3 1, 3) := by decide +kernel
theorem dX5_twice_88 : decode cX5_twice 88 = .ok (.goto (-86), 3) := by decide +kernel
theorem dX5_twice_91 : decode cX5_twice 91 = .ok (.iconst 0, 1) := by decide +kernel
theorem dX5_twice_92 : decode cX5_twice 92 = .ok (.ireturn, 1) := by decide +kernel
theorem dX5_reckon_0 : decode cX5_reckon 0 = .ok (.iload_n 0, 1) := by decide +kernel
theorem dX5_reckon_1 : decode cX5_reckon 1 = .ok (.tableswitch 87 10 15 #[39, 43, 47, 51, 62, 73], 39) := by decide +kernel
theorem dX5_reckon_40 : decode cX5_reckon 40 = .ok (.iload_n 1, 1) := by decide +kernel
theorem dX5_reckon_41 : decode cX5_reckon 41 = .ok (.iload_n 2, 1) := by decide +kernel
theorem dX5_reckon_42 : decode cX5_reckon 42 = .ok (.iadd, 1) := by decide +kernel
theorem dX5_reckon_43 : decode cX5_reckon 43 = .ok (.ireturn, 1) := by decide +kernel
theorem dX5_reckon_44 : decode cX5_reckon 44 = .ok (.iload_n 1, 1) := by decide +kernel
theorem dX5_reckon_45 : decode cX5_reckon 45 = .ok (.iload_n 2, 1) := by decide +kernel
theorem dX5_reckon_46 : decode cX5_reckon 46 = .ok (.isub, 1) := by decide +kernel
theorem dX5_reckon_47 : decode cX5_reckon 47 = .ok (.ireturn, 1) := by decide +kernel
theorem dX5_reckon_48 : decode cX5_reckon 48 = .ok (.iload_n 1, 1) := by decide +kernel
theorem dX5_reckon_49 : decode cX5_reckon 49 = .ok (.iload_n 2, 1) := by decide +kernel
theorem dX5_reckon_50 : decode cX5_reckon 50 = .ok (.imul, 1) := by decide +kernel
theorem dX5_reckon_51 : decode cX5_reckon 51 = .ok (.ireturn, 1) := by decide +kernel
theorem dX5_reckon_52 : decode cX5_reckon 52 = .ok (.iload_n 1, 1) := by decide +kernel
theorem dX5_reckon_53 : decode cX5_reckon 53 = .ok (.iload_n 2, 1) := by decide +kernel
theorem dX5_reckon_54 : decode cX5_reckon 54 = .ok (.if_icmp .ge 7, 3) := by decide +kernel
theorem dX5_reckon_57 : decode cX5_reckon 57 = .ok (.iconst 1, 1) := by decide +kernel
theorem dX5_reckon_58 : decode cX5_reckon 58 = .ok (.goto 4, 3) := by decide +kernel
theorem dX5_reckon_61 : decode cX5_reckon 61 = .ok (.iconst 0, 1) := by decide +kernel
theorem dX5_reckon_62 : decode cX5_reckon 62 = .ok (.ireturn, 1) := by decide +kernel
theorem dX5_reckon_63 : decode cX5_reckon 63 = .ok (.iload_n 1, 1) := by decide +kernel
theorem dX5_reckon_64 : decode cX5_reckon 64 = .ok (.iload_n 2, 1) := by decide +kernel
theorem dX5_reckon_65 : decode cX5_reckon 65 = .ok (.if_icmp .ne 7, 3) := by decide +kernel
theorem dX5_reckon_68 : decode cX5_reckon 68 = .ok (.iconst 1, 1) := by decide +kernel
theorem dX5_reckon_69 : decode cX5_reckon 69 = .ok (.goto 4, 3) := by decide +kernel
theorem dX5_reckon_72 : decode cX5_reckon 72 = .ok (.iconst 0, 1) := by decide +kernel
theorem dX5_reckon_73 : decode cX5_reckon 73 = .ok (.ireturn, 1) := by decide +kernel
theorem dX5_reckon_74 : decode cX5_reckon 74 = .ok (.iload_n 1, 1) := by decide +kernel
theorem dX5_reckon_75 : decode cX5_reckon 75 = .ok (.ifCond .eq 11, 3) := by decide +kernel
theorem dX5_reckon_78 : decode cX5_reckon 78 = .ok (.iload_n 2, 1) := by decide +kernel
theorem dX5_reckon_79 : decode cX5_reckon 79 = .ok (.ifCond .eq 7, 3) := by decide +kernel
theorem dX5_reckon_82 : decode cX5_reckon 82 = .ok (.iconst 1, 1) := by decide +kernel
theorem dX5_reckon_83 : decode cX5_reckon 83 = .ok (.goto 4, 3) := by decide +kernel
theorem dX5_reckon_86 : decode cX5_reckon 86 = .ok (.iconst 0, 1) := by decide +kernel
theorem dX5_reckon_87 : decode cX5_reckon 87 = .ok (.ireturn, 1) := by decide +kernel
theorem dX5_reckon_88 : decode cX5_reckon 88 = .ok (.iload_n 1, 1) := by decide +kernel
theorem dX5_reckon_89 : decode cX5_reckon 89 = .ok (.ifCond .ne 7, 3) := by decide +kernel
theorem dX5_reckon_92 : decode cX5_reckon 92 = .ok (.iload_n 2, 1) := by decide +kernel
theorem dX5_reckon_93 : decode cX5_reckon 93 = .ok (.ifCond .eq 7, 3) := by decide +kernel
theorem dX5_reckon_96 : decode cX5_reckon 96 = .ok (.iconst 1, 1) := by decide +kernel
theorem dX5_reckon_97 : decode cX5_reckon 97 = .ok (.goto 4, 3) := by decide +kernel
theorem dX5_reckon_100 : decode cX5_reckon 100 = .ok (.iconst 0, 1) := by decide +kernel
theorem dX5_reckon_101 : decode cX5_reckon 101 = .ok (.ireturn, 1) := by decide +kernel
set_option maxRecDepth 20000 in
theorem ggX5_result_X5_reckon : GoodIn wsX5_result wsX5_reckon := goodIn_r _ [9] (by decide +kernel) (by decide +kernel)
set_option maxRecDepth 20000 in
theorem gX5_result_X5_reckon : GoodIn wsX5_result (va_wsS RX5 92 yX5_reckon wsX5_reckon) := goodIn_app (goodIn_of _ (by decide +kernel)) ggX5_result_X5_reckon
theorem dX5_result_0 : decode cX5_result 0 = .ok (.aload_n 0, 1) := by decide +kernel
theorem dX5_result_1 : decode cX5_result 1 = .ok (.iconst 0, 1) := by decide +kernel
theorem dX5_result_2 : decode cX5_result 2 = .ok (.putfield 89, 3) := by decide +kernel
theorem dX5_result_5 : decode cX5_result 5 = .ok (.iconst 0, 1) := by decide +kernel
theorem dX5_result_6 : decode cX5_result 6 = .ok (.istore_n 3, 1) := by decide +kernel
theorem dX5_result_7 : decode cX5_result 7 = .ok (.iload_n 3, 1) := by decide +kernel
theorem dX5_result_8 : decode cX5_result 8 = .ok (.aload_n 0, 1) := by decide +kernel
theorem dX5_result_9 : decode cX5_result 9 = .ok (.getfield 50, 3) := by decide +kernel
theorem dX5_result_12 : decode cX5_result 12 = .ok (.iload_n 1, 1) := by decide +kernel
theorem dX5_result_13 : decode cX5_result 13 = .ok (.iaload, 1) := by decide +kernel
theorem dX5_result_14 : decode cX5_result 14 = .ok (.if_icmp .ge 169, 3) := by decide +kernel
theorem dX5_result_17 : decode cX5_result 17 = .ok (.aload_n 0, 1) := by decide +kernel
theorem dX5_result_18 : decode cX5_result 18 = .ok (.getfield 53, 3) := by decide +kernel
theorem dX5_result_21 : decode cX5_result 21 = .ok (.bipush 10, 2) := by decide +kernel
theorem dX5_result_23 : decode cX5_result 23 = .ok (.iload_n 1, 1) := by decide +kernel
theorem dX5_result_24 : decode cX5_result 24 = .ok (.imul, 1) := by decide +kernel
theorem dX5_result_25 : decode cX5_result 25 = .ok (.iload_n 3, 1) := by decide +kernel
theorem dX5_result_26 : decode cX5_result 26 = .ok (.iadd, 1) := by decide +kernel
theorem dX5_result_27 : decode cX5_result 27 = .ok (.iaload, 1) := by decide +kernel
theorem dX5_result_28 : decode cX5_result 28 = .ok (.istore 4, 2) := by decide +kernel
theorem dX5_result_30 : decode cX5_result 30 = .ok (.iload 4, 2) := by decide +kernel
theorem dX5_result_32 : decode cX5_result 32 = .ok (.iconst 4, 1) := by decide +kernel
theorem dX5_result_33 : decode cX5_result 33 = .ok (.if_icmp .lt 10, 3) := by decide +kernel
theorem dX5_result_36 : decode cX5_result 36 = .ok (.iload 4, 2) := by decide +kernel
theorem dX5_result_38 : decode cX5_result 38 = .ok (.bipush 100, 2) := by decide +kernel
theorem dX5_result_40 : decode cX5_result 40 = .ok (.if_icmp .lt 51, 3) := by decide +kernel
theorem dX5_result_43 : decode cX5_result 43 = .ok (.aload_n 0, 1) := by decide +kernel
theorem dX5_result_44 : decode cX5_result 44 = .ok (.getfield 59, 3) := by decide +kernel
theorem dX5_result_47 : decode cX5_result 47 = .ok (.aload_n 0, 1) := by decide +kernel
theorem dX5_result_48 : decode cX5_result 48 = .ok (.getfield 89, 3) := by decide +kernel
theorem dX5_result_51 : decode cX5_result 51 = .ok (.iload 4, 2) := by decide +kernel
theorem dX5_result_53 : decode cX5_result 53 = .ok (.iconst 4, 1) := by decide +kernel
theorem dX5_result_54 : decode cX5_result 54 = .ok (.if_icmp .ge 17, 3) := by decide +kernel
theorem dX5_result_57 : decode cX5_result 57 = .ok (.aload_n 0, 1) := by decide +kernel
theorem dX5_result_58 : decode cX5_result 58 = .ok (.getfield 16, 3) := by decide +kernel
theorem dX5_result_61 : decode cX5_result 61 = .ok (.iconst 4, 1) := by decide +kernel
theorem dX5_result_62 : decode cX5_result 62 = .ok (.iload_n 2, 1) := by decide +kernel
theorem dX5_result_63 : decode cX5_result 63 = .ok (.imul, 1) := by decide +kernel
theorem dX5_result_64 : decode cX5_result 64 = .ok (.iload 4, 2) := by decide +kernel
theorem dX5_result_66 : decode cX5_result 66 = .ok (.iadd, 1) := by decide +kernel
theorem dX5_result_67 : decode cX5_result 67 = .ok (.iaload, 1) := by decide +kernel
theorem dX5_result_68 : decode cX5_result 68 = .ok (.goto 9, 3) := by decide +kernel
theorem dX5_result_71 : decode cX5_result 71 = .ok (.iload 4, 2) := by decide +kernel
theorem dX5_result_73 : decode cX5_result 73 = .ok (.sipush 200, 3) := by decide +kernel
theorem dX5_result_76 : decode cX5_result 76 = .ok (.isub, 1) := by decide +kernel
theorem dX5_result_77 : decode cX5_result 77 = .ok (.iastore, 1) := by decide +kernel
theorem dX5_result_78 : decode cX5_result 78 = .ok (.aload_n 0, 1) := by decide +kernel
theorem dX5_result_79 : decode cX5_result 79 = .ok (.dup, 1) := by decide +kernel
theorem dX5_result_80 : decode cX5_result 80 = .ok (.getfield 89, 3) := by decide +kernel
theorem dX5_result_83 : decode cX5_result 83 = .ok (.iconst 1, 1) := by decide +kernel
theorem dX5_result_84 : decode cX5_result 84 = .ok (.iadd, 1) := by decide +kernel
theorem dX5_result_85 : decode cX5_result 85 = .ok (.putfield 89, 3) := by decide +kernel
theorem dX5_result_88 : decode cX5_result 88 = .ok (.goto 89, 3) := by decide +kernel
theorem dX5_result_91 : decode cX5_result 91 = .ok (.iload 4, 2) := by decide +kernel
theorem dX5_result_93 : decode cX5_result 93 = .ok (.bipush 17, 2) := by decide +kernel
theorem dX5_result_95 : decode cX5_result 95 = .ok (.if_icmp .ne 36, 3) := by decide +kernel
theorem dX5_result_98 : decode cX5_result 98 = .ok (.aload_n 0, 1) := by decide +kernel
theorem dX5_result_99 : decode cX5_result 99 = .ok (.getfield 59, 3) := by decide +kernel
theorem dX5_result_102 : decode cX5_result 102 = .ok (.aload_n 0, 1) := by decide +kernel
theorem dX5_result_103 : decode cX5_result 103 = .ok (.getfield 89, 3) := by decide +kernel
theorem dX5_result_106 : decode cX5_result 106 = .ok (.iconst 1, 1) := by decide +kernel
theorem dX5_result_107 : decode cX5_result 107 = .ok (.isub, 1) := by decide +kernel
theorem dX5_result_108 : decode cX5_result 108 = .ok (.aload_n 0, 1) := by decide +kernel
theorem dX5_result_109 : decode cX5_result 109 = .ok (.getfield 59, 3) := by decide +kernel
theorem dX5_result_112 : decode cX5_result 112 = .ok (.aload_n 0, 1) := by decide +kernel
theorem dX5_result_113 : decode cX5_result 113 = .ok (.getfield 89, 3) := by decide +kernel
theorem dX5_result_116 : decode cX5_result 116 = .ok (.iconst 1, 1) := by decide +kernel
theorem dX5_result_117 : decode cX5_result 117 = .ok (.isub, 1) := by decide +kernel
theorem dX5_result_118 : decode cX5_result 118 = .ok (.iaload, 1) := by decide +kernel
theorem dX5_result_119 : decode cX5_result 119 = .ok (.ifCond .ne 7, 3) := by decide +kernel
theorem dX5_result_122 : decode cX5_result 122 = .ok (.iconst 1, 1) := by decide +kernel
theorem dX5_result_123 : decode cX5_result 123 = .ok (.goto 4, 3) := by decide +kernel
theorem dX5_result_126 : decode cX5_result 126 = .ok (.iconst 0, 1) := by decide +kernel
theorem dX5_result_127 : decode cX5_result 127 = .ok (.iastore, 1) := by decide +kernel
theorem dX5_result_128 : decode cX5_result 128 = .ok (.goto 49, 3) := by decide +kernel
theorem dX5_result_131 : decode cX5_result 131 = .ok (.aload_n 0, 1) := by decide +kernel
theorem dX5_result_132 : decode cX5_result 132 = .ok (.dup, 1) := by decide +kernel
theorem dX5_result_133 : decode cX5_result 133 = .ok (.getfield 89, 3) := by decide +kernel
theorem dX5_result_136 : decode cX5_result 136 = .ok (.iconst 1, 1) := by decide +kernel
theorem dX5_result_137 : decode cX5_result 137 = .ok (.isub, 1) := by decide +kernel
theorem dX5_result_138 : decode cX5_result 138 = .ok (.putfield 89, 3) := by decide +kernel
theorem dX5_result_141 : decode cX5_result 141 = .ok (.aload_n 0, 1) := by decide +kernel
theorem dX5_result_142 : decode cX5_result 142 = .ok (.getfield 59, 3) := by decide +kernel
theorem dX5_result_145 : decode cX5_result 145 = .ok (.aload_n 0, 1) := by decide +kernel
theorem dX5_result_146 : decode cX5_result 146 = .ok (.getfield 89, 3) := by decide +kernel
theorem dX5_result_149 : decode cX5_result 149 = .ok (.iconst 1, 1) := by decide +kernel
theorem dX5_result_150 : decode cX5_result 150 = .ok (.isub, 1) := by decide +kernel
theorem dX5_result_151 : decode cX5_result 151 = .ok (.iload 4, 2) := by decide +kernel
theorem dX5_result_153 : decode cX5_result 153 = .ok (.aload_n 0, 1) := by decide +kernel
theorem dX5_result_154 : decode cX5_result 154 = .ok (.getfield 59, 3) := by decide +kernel
theorem dX5_result_157 : decode cX5_result 157 = .ok (.aload_n 0, 1) := by decide +kernel
theorem dX5_result_158 : decode cX5_result 158 = .ok (.getfield 89, 3) := by decide +kernel
theorem dX5_result_161 : decode cX5_result 161 = .ok (.iconst 1, 1) := by decide +kernel
theorem dX5_result_162 : decode cX5_result 162 = .ok (.isub, 1) := by decide +kernel
theorem dX5_result_163 : decode cX5_result 163 = .ok (.iaload, 1) := by decide +kernel
theorem dX5_result_164 : decode cX5_result 164 = .ok (.aload_n 0, 1) := by decide +kernel
theorem dX5_result_165 : decode cX5_result 165 = .ok (.getfield 59, 3) := by decide +kernel
theorem dX5_result_168 : decode cX5_result 168 = .ok (.aload_n 0, 1) := by decide +kernel
theorem dX5_result_169 : decode cX5_result 169 = .ok (.getfield 89, 3) := by decide +kernel
theorem dX5_result_172 : decode cX5_result 172 = .ok (.iaload, 1) := by decide +kernel
theorem dX5_result_173 : decode cX5_result 173 = .ok (.invokestatic 92, 3) := by decide +kernel
theorem dX5_result_176 : decode cX5_result 176 = .ok (.iastore, 1) := by decide +kernel
theorem dX5_result_177 : decode cX5_result 177 = .ok (.iinc 3 1, 3) := by decide +kernel
theorem dX5_result_180 : decode cX5_result 180 = .ok (.goto (-173), 3) := by decide +kernel
theorem dX5_result_183 : decode cX5_result 183 = .ok (.aload_n 0, 1) := by decide +kernel
theorem dX5_result_184 : decode cX5_result 184 = .ok (.getfield 59, 3) := by decide +kernel
theorem dX5_result_187 : decode cX5_result 187 = .ok (.iconst 0, 1) := by decide +kernel
theorem dX5_result_188 : decode cX5_result 188 = .ok (.iaload, 1) := by decide +kernel
theorem dX5_result_189 : decode cX5_result 189 = .ok (.ireturn, 1) := by decide +kernel
set_option maxRecDepth 20000 in
theorem ggX5_breaksCheck_X5_result : GoodIn wsX5_breaksCheck wsX5_result := goodIn_r _ [8, 9, 10, 11, 12, 13, 14, 15, 7, 16, 17, 18, 19, 20, 21, 22, 23, 24, 25, 26, 27, 28, 29, 30, 31, 32, 33, 34, 35, 36, 37, 38, 39, 40, 41, 42, 43, 44, 45, 46, 47] (by decide +kernel) (by decide +kernel)
set_option maxRecDepth 20000 in
theorem gX5_breaksCheck_X5_result : GoodIn wsX5_breaksCheck (wsV RX5 96 RX5 yX5_result wsX5_result) := goodIn_app (goodIn_of _ (by decide +kernel)) ggX5_breaksCheck_X5_result
theorem dX5_breaksCheck_0 : decode cX5_breaksCheck 0 = .ok (.iconst 0, 1) := by decide +kernel
theorem dX5_breaksCheck_1 : decode cX5_breaksCheck 1 = .ok (.istore_n 2, 1) := by decide +kernel
theorem dX5_breaksCheck_2 : decode cX5_breaksCheck 2 = .ok (.iconst 0, 1) := by decide +kernel
theorem dX5_breaksCheck_3 : decode cX5_breaksCheck 3 = .ok (.istore_n 3, 1) := by decide +kernel
theorem dX5_breaksCheck_4 : decode cX5_breaksCheck 4 = .ok (.iload_n 3, 1) := by decide +kernel
theorem dX5_breaksCheck_5 : decode cX5_breaksCheck 5 = .ok (.aload_n 0, 1) := by decide +kernel
theorem dX5_breaksCheck_6 : decode cX5_breaksCheck 6 = .ok (.getfield 82, 3) := by decide +kernel
theorem dX5_breaksCheck_9 : decode cX5_breaksCheck 9 = .ok (.if_icmp .ge 43, 3) := by decide +kernel
theorem dX5_breaksCheck_12 : decode cX5_breaksCheck 12 = .ok (.iload_n 2, 1) := by decide +kernel
theorem dX5_breaksCheck_13 : decode cX5_breaksCheck 13 = .ok (.ifCond .ne 27, 3) := by decide +kernel
theorem dX5_breaksCheck_16 : decode cX5_breaksCheck 16 = .ok (.aload_n 0, 1) := by decide +kernel
theorem dX5_breaksCheck_17 : decode cX5_breaksCheck 17 = .ok (.getfield 13, 3) := by decide +kernel
theorem dX5_breaksCheck_20 : decode cX5_breaksCheck 20 = .ok (.iload_n 3, 1) := by decide +kernel
theorem dX5_breaksCheck_21 : decode cX5_breaksCheck 21 = .ok (.iaload, 1) := by decide +kernel
theorem dX5_breaksCheck_22 : decode cX5_breaksCheck 22 = .ok (.aload_n 0, 1) := by decide +kernel
theorem dX5_breaksCheck_23 : decode cX5_breaksCheck 23 = .ok (.getfield 47, 3) := by decide +kernel
theorem dX5_breaksCheck_26 : decode cX5_breaksCheck 26 = .ok (.iload_n 1, 1) := by decide +kernel
theorem dX5_breaksCheck_27 : decode cX5_breaksCheck 27 = .ok (.iaload, 1) := by decide +kernel
theorem dX5_breaksCheck_28 : decode cX5_breaksCheck 28 = .ok (.if_icmp .ne 16, 3) := by decide +kernel
theorem dX5_breaksCheck_31 : decode cX5_breaksCheck 31 = .ok (.aload_n 0, 1) := by decide +kernel
theorem dX5_breaksCheck_32 : decode cX5_breaksCheck 32 = .ok (.iload_n 1, 1) := by decide +kernel
theorem dX5_breaksCheck_33 : decode cX5_breaksCheck 33 = .ok (.iload_n 3, 1) := by decide +kernel
theorem dX5_breaksCheck_34 : decode cX5_breaksCheck 34 = .ok (.invokevirtual 96, 3) := by decide +kernel
theorem dX5_breaksCheck_37 : decode cX5_breaksCheck 37 = .ok (.ifCond .ne 7, 3) := by decide +kernel
theorem dX5_breaksCheck_40 : decode cX5_breaksCheck 40 = .ok (.iconst 1, 1) := by decide +kernel
theorem dX5_breaksCheck_41 : decode cX5_breaksCheck 41 = .ok (.goto 4, 3) := by decide +kernel
theorem dX5_breaksCheck_44 : decode cX5_breaksCheck 44 = .ok (.iconst 0, 1) := by decide +kernel
theorem dX5_breaksCheck_45 : decode cX5_breaksCheck 45 = .ok (.istore_n 2, 1) := by decide +kernel
theorem dX5_breaksCheck_46 : decode cX5_breaksCheck 46 = .ok (.iinc 3 1, 3) := by decide +kernel
theorem dX5_breaksCheck_49 : decode cX5_breaksCheck 49 = .ok (.goto (-45), 3) := by decide +kernel
theorem dX5_breaksCheck_52 : decode cX5_breaksCheck 52 = .ok (.iload_n 2, 1) := by decide +kernel
theorem dX5_breaksCheck_53 : decode cX5_breaksCheck 53 = .ok (.ireturn, 1) := by decide +kernel
set_option maxRecDepth 20000 in
theorem ggX5_wrong_X5_twice : GoodIn wsX5_wrong wsX5_twice := goodIn_r _ [11, 12, 13, 14, 42, 43, 44, 45, 46, 47, 48, 49, 50, 51, 52, 53, 54, 55, 56, 57, 58, 59, 60, 61, 62, 63, 64, 65, 66, 67, 68, 69, 70, 71, 72] (by decide +kernel) (by decide +kernel)
set_option maxRecDepth 20000 in
theorem gX5_wrong_X5_twice : GoodIn wsX5_wrong (wsV RX5 99 RX5 yX5_twice wsX5_twice) := goodIn_app (goodIn_of _ (by decide +kernel)) ggX5_wrong_X5_twice
set_option maxRecDepth 20000 in
theorem ggX5_wrong_X5_breaksLink : GoodIn wsX5_wrong wsX5_breaksLink := goodIn_r _ [18, 12, 14, 19, 13, 20, 21, 22, 23, 24, 10, 25, 42, 43, 44, 45, 46, 47, 48, 49, 50, 51, 52, 53, 54, 55, 56, 57, 58, 59, 60, 61, 62, 63, 64, 65, 66, 67, 68, 69, 70, 71, 72] (by decide +kernel) (by decide +kernel)
set_option maxRecDepth 20000 in
theorem gX5_wrong_X5_breaksLink : GoodIn wsX5_wrong (wsV RX5 109 RX5 yX5_breaksLink wsX5_breaksLink) := goodIn_app (goodIn_of _ (by decide +kernel)) ggX5_wrong_X5_breaksLink
set_option maxRecDepth 20000 in
theorem ggX5_wrong_X5_breaksCheck : GoodIn wsX5_wrong wsX5_breaksCheck := goodIn_r _ [29, 12, 13, 30, 31, 32, 33, 10, 34, 35, 36, 37, 38, 14, 39, 40, 41, 42, 43, 44, 45, 46, 47, 48, 49, 50, 51, 52, 53, 54, 55, 56, 57, 58, 59, 60, 61, 62, 63, 64, 65, 66, 67, 68, 69, 70, 71, 72] (by decide +kernel) (by decide +kernel)
set_option maxRecDepth 20000 in
theorem gX5_wrong_X5_breaksCheck : GoodIn wsX5_wrong (wsV RX5 115 RX5 yX5_breaksCheck wsX5_breaksCheck) := goodIn_app (goodIn_of _ (by decide +kernel)) ggX5_wrong_X5_breaksCheck
theorem dX5_wrong_0 : decode cX5_wrong 0 = .ok (.iconst 0, 1) := by decide +kernel
theorem dX5_wrong_1 : decode cX5_wrong 1 = .ok (.istore_n 1, 1) := by decide +kernel
theorem dX5_wrong_2 : decode cX5_wrong 2 = .ok (.iload_n 1, 1) := by decide +kernel
theorem dX5_wrong_3 : decode cX5_wrong 3 = .ok (.aload_n 0, 1) := by decide +kernel
theorem dX5_wrong_4 : decode cX5_wrong 4 = .ok (.getfield 75, 3) := by decide +kernel
theorem dX5_wrong_7 : decode cX5_wrong 7 = .ok (.if_icmp .ge 24, 3) := by decide +kernel
theorem dX5_wrong_10 : decode cX5_wrong 10 = .ok (.aload_n 0, 1) := by decide +kernel
theorem dX5_wrong_11 : decode cX5_wrong 11 = .ok (.iload_n 1, 1) := by decide +kernel
theorem dX5_wrong_12 : decode cX5_wrong 12 = .ok (.iconst 0, 1) := by decide +kernel
theorem dX5_wrong_13 : decode cX5_wrong 13 = .ok (.invokevirtual 99, 3) := by decide +kernel
theorem dX5_wrong_16 : decode cX5_wrong 16 = .ok (.ifCond .eq 9, 3) := by decide +kernel
theorem dX5_wrong_19 : decode cX5_wrong 19 = .ok (.sipush 200, 3) := by decide +kernel
theorem dX5_wrong_22 : decode cX5_wrong 22 = .ok (.iload_n 1, 1) := by decide +kernel
theorem dX5_wrong_23 : decode cX5_wrong 23 = .ok (.iadd, 1) := by decide +kernel
theorem dX5_wrong_24 : decode cX5_wrong 24 = .ok (.ireturn, 1) := by decide +kernel
theorem dX5_wrong_25 : decode cX5_wrong 25 = .ok (.iinc 1 1, 3) := by decide +kernel
theorem dX5_wrong_28 : decode cX5_wrong 28 = .ok (.goto (-26), 3) := by decide +kernel
theorem dX5_wrong_31 : decode cX5_wrong 31 = .ok (.iconst 0, 1) := by decide +kernel
theorem dX5_wrong_32 : decode cX5_wrong 32 = .ok (.istore_n 1, 1) := by decide +kernel
theorem dX5_wrong_33 : decode cX5_wrong 33 = .ok (.iload_n 1, 1) := by decide +kernel
theorem dX5_wrong_34 : decode cX5_wrong 34 = .ok (.aload_n 0, 1) := by decide +kernel
theorem dX5_wrong_35 : decode cX5_wrong 35 = .ok (.getfield 103, 3) := by decide +kernel
theorem dX5_wrong_38 : decode cX5_wrong 38 = .ok (.if_icmp .ge 34, 3) := by decide +kernel
theorem dX5_wrong_41 : decode cX5_wrong 41 = .ok (.aload_n 0, 1) := by decide +kernel
theorem dX5_wrong_42 : decode cX5_wrong 42 = .ok (.aload_n 0, 1) := by decide +kernel
theorem dX5_wrong_43 : decode cX5_wrong 43 = .ok (.getfield 41, 3) := by decide +kernel
theorem dX5_wrong_46 : decode cX5_wrong 46 = .ok (.iload_n 1, 1) := by decide +kernel
theorem dX5_wrong_47 : decode cX5_wrong 47 = .ok (.iaload, 1) := by decide +kernel
theorem dX5_wrong_48 : decode cX5_wrong 48 = .ok (.aload_n 0, 1) := by decide +kernel
theorem dX5_wrong_49 : decode cX5_wrong 49 = .ok (.getfield 44, 3) := by decide +kernel
theorem dX5_wrong_52 : decode cX5_wrong 52 = .ok (.iload_n 1, 1) := by decide +kernel
theorem dX5_wrong_53 : decode cX5_wrong 53 = .ok (.iaload, 1) := by decide +kernel
theorem dX5_wrong_54 : decode cX5_wrong 54 = .ok (.invokevirtual 99, 3) := by decide +kernel
theorem dX5_wrong_57 : decode cX5_wrong 57 = .ok (.ifCond .eq 9, 3) := by decide +kernel
theorem dX5_wrong_60 : decode cX5_wrong 60 = .ok (.sipush 300, 3) := by decide +kernel
theorem dX5_wrong_63 : decode cX5_wrong 63 = .ok (.iload_n 1, 1) := by decide +kernel
theorem dX5_wrong_64 : decode cX5_wrong 64 = .ok (.iadd, 1) := by decide +kernel
theorem dX5_wrong_65 : decode cX5_wrong 65 = .ok (.ireturn, 1) := by decide +kernel
theorem dX5_wrong_66 : decode cX5_wrong 66 = .ok (.iinc 1 1, 3) := by decide +kernel
theorem dX5_wrong_69 : decode cX5_wrong 69 = .ok (.goto (-36), 3) := by decide +kernel
theorem dX5_wrong_72 : decode cX5_wrong 72 = .ok (.iconst 0, 1) := by decide +kernel
theorem dX5_wrong_73 : decode cX5_wrong 73 = .ok (.istore_n 1, 1) := by decide +kernel
theorem dX5_wrong_74 : decode cX5_wrong 74 = .ok (.iload_n 1, 1) := by decide +kernel
theorem dX5_wrong_75 : decode cX5_wrong 75 = .ok (.aload_n 0, 1) := by decide +kernel
theorem dX5_wrong_76 : decode cX5_wrong 76 = .ok (.getfield 106, 3) := by decide +kernel
theorem dX5_wrong_79 : decode cX5_wrong 79 = .ok (.if_icmp .ge 23, 3) := by decide +kernel
theorem dX5_wrong_82 : decode cX5_wrong 82 = .ok (.aload_n 0, 1) := by decide +kernel
theorem dX5_wrong_83 : decode cX5_wrong 83 = .ok (.iload_n 1, 1) := by decide +kernel
theorem dX5_wrong_84 : decode cX5_wrong 84 = .ok (.invokevirtual 109, 3) := by decide +kernel
theorem dX5_wrong_87 : decode cX5_wrong 87 = .ok (.ifCond .eq 9, 3) := by decide +kernel
theorem dX5_wrong_90 : decode cX5_wrong 90 = .ok (.sipush 400, 3) := by decide +kernel
theorem dX5_wrong_93 : decode cX5_wrong 93 = .ok (.iload_n 1, 1) := by decide +kernel
theorem dX5_wrong_94 : decode cX5_wrong 94 = .ok (.iadd, 1) := by decide +kernel
theorem dX5_wrong_95 : decode cX5_wrong 95 = .ok (.ireturn, 1) := by decide +kernel
theorem dX5_wrong_96 : decode cX5_wrong 96 = .ok (.iinc 1 1, 3) := by decide +kernel
theorem dX5_wrong_99 : decode cX5_wrong 99 = .ok (.goto (-25), 3) := by decide +kernel
theorem dX5_wrong_102 : decode cX5_wrong 102 = .ok (.iconst 0, 1) := by decide +kernel
theorem dX5_wrong_103 : decode cX5_wrong 103 = .ok (.istore_n 1, 1) := by decide +kernel
theorem dX5_wrong_104 : decode cX5_wrong 104 = .ok (.iload_n 1, 1) := by decide +kernel
theorem dX5_wrong_105 : decode cX5_wrong 105 = .ok (.aload_n 0, 1) := by decide +kernel
theorem dX5_wrong_106 : decode cX5_wrong 106 = .ok (.getfield 112, 3) := by decide +kernel
theorem dX5_wrong_109 : decode cX5_wrong 109 = .ok (.if_icmp .ge 23, 3) := by decide +kernel
theorem dX5_wrong_112 : decode cX5_wrong 112 = .ok (.aload_n 0, 1) := by decide +kernel
theorem dX5_wrong_113 : decode cX5_wrong 113 = .ok (.iload_n 1, 1) := by decide +kernel
theorem dX5_wrong_114 : decode cX5_wrong 114 = .ok (.invokevirtual 115, 3) := by decide +kernel
theorem dX5_wrong_117 : decode cX5_wrong 117 = .ok (.ifCond .eq 9, 3) := by decide +kernel
theorem dX5_wrong_120 : decode cX5_wrong 120 = .ok (.sipush 500, 3) := by decide +kernel
theorem dX5_wrong_123 : decode cX5_wrong 123 = .ok (.iload_n 1, 1) := by decide +kernel
theorem dX5_wrong_124 : decode cX5_wrong 124 = .ok (.iadd, 1) := by decide +kernel
theorem dX5_wrong_125 : decode cX5_wrong 125 = .ok (.ireturn, 1) := by decide +kernel
theorem dX5_wrong_126 : decode cX5_wrong 126 = .ok (.iinc 1 1, 3) := by decide +kernel
theorem dX5_wrong_129 : decode cX5_wrong 129 = .ok (.goto (-25), 3) := by decide +kernel
theorem dX5_wrong_132 : decode cX5_wrong 132 = .ok (.iconst 0, 1) := by decide +kernel
theorem dX5_wrong_133 : decode cX5_wrong 133 = .ok (.ireturn, 1) := by decide +kernel
set_option maxRecDepth 20000 in
theorem ggX5_link_X5_isColumn : GoodIn wsX5_link wsX5_isColumn := goodIn_r _ [12, 13, 14, 15, 16, 11, 17, 18, 30, 31, 32, 33, 34, 35, 36, 37, 38, 39, 40, 41, 42, 43, 44, 45, 46, 47, 48, 49, 50, 51, 52, 53, 54, 55, 56, 57, 58, 59, 60] (by decide +kernel) (by decide +kernel)
set_option maxRecDepth 20000 in
theorem gX5_link_X5_isColumn : GoodIn wsX5_link (wsV RX5 118 RX5 yX5_isColumn wsX5_isColumn) := goodIn_app (goodIn_of _ (by decide +kernel)) ggX5_link_X5_isColumn
set_option maxRecDepth 20000 in
theorem ggX5_link_X5_isTable : GoodIn wsX5_link wsX5_isTable := goodIn_r _ [17, 18, 30, 31, 32, 33, 34, 35, 36, 37, 38, 39, 40, 41, 42, 43, 44, 45, 46, 47, 48, 49, 50, 51, 52, 53, 54, 55, 56, 57, 58, 59, 60] (by decide +kernel) (by decide +kernel)
set_option maxRecDepth 20000 in
theorem gX5_link_X5_isTable : GoodIn wsX5_link (wsV RX5 78 RX5 yX5_isTable wsX5_isTable) := goodIn_app (goodIn_of _ (by decide +kernel)) ggX5_link_X5_isTable
set_option maxRecDepth 20000 in
theorem ggX5_link_X5_breaksLink : GoodIn wsX5_link wsX5_breaksLink := goodIn_r _ [22, 23, 24, 4, 25, 3, 5, 26, 27, 28, 11, 29, 30, 31, 32, 33, 34, 35, 36, 37, 38, 39, 40, 41, 42, 43, 44, 45, 46, 47, 48, 49, 50, 51, 52, 53, 54, 55, 56, 57, 58, 59, 60] (by decide +kernel) (by decide +kernel)
set_option maxRecDepth 20000 in
theorem gX5_link_X5_breaksLink : GoodIn wsX5_link (wsV RX5 109 RX5 yX5_breaksLink wsX5_breaksLink) := goodIn_app (goodIn_of _ (by decide +kernel)) ggX5_link_X5_breaksLink
theorem dX5_link_0 : decode cX5_link 0 = .ok (.aload_n 0, 1) := by decide +kernel
theorem dX5_link_1 : decode cX5_link 1 = .ok (.aload_n 0, 1) := by decide +kernel
theorem dX5_link_2 : decode cX5_link 2 = .ok (.iload_n 1, 1) := by decide +kernel
theorem dX5_link_3 : decode cX5_link 3 = .ok (.iload_n 2, 1) := by decide +kernel
theorem dX5_link_4 : decode cX5_link 4 = .ok (.invokevirtual 118, 3) := by decide +kernel
theorem dX5_link_7 : decode cX5_link 7 = .ok (.ifCond .eq 26, 3) := by decide +kernel
theorem dX5_link_10 : decode cX5_link 10 = .ok (.aload_n 0, 1) := by decide +kernel
theorem dX5_link_11 : decode cX5_link 11 = .ok (.iload_n 3, 1) := by decide +kernel
theorem dX5_link_12 : decode cX5_link 12 = .ok (.invokevirtual 78, 3) := by decide +kernel
theorem dX5_link_15 : decode cX5_link 15 = .ok (.ifCond .eq 18, 3) := by decide +kernel
theorem dX5_link_18 : decode cX5_link 18 = .ok (.iload_n 2, 1) := by decide +kernel
theorem dX5_link_19 : decode cX5_link 19 = .ok (.ifCond .eq 14, 3) := by decide +kernel
theorem dX5_link_22 : decode cX5_link 22 = .ok (.iload 4, 2) := by decide +kernel
theorem dX5_link_24 : decode cX5_link 24 = .ok (.ifCond .lt 9, 3) := by decide +kernel
theorem dX5_link_27 : decode cX5_link 27 = .ok (.iload 4, 2) := by decide +kernel
theorem dX5_link_29 : decode cX5_link 29 = .ok (.iconst 2, 1) := by decide +kernel
theorem dX5_link_30 : decode cX5_link 30 = .ok (.if_icmp .le 7, 3) := by decide +kernel
theorem dX5_link_33 : decode cX5_link 33 = .ok (.iconst 1, 1) := by decide +kernel
theorem dX5_link_34 : decode cX5_link 34 = .ok (.goto 17, 3) := by decide +kernel
theorem dX5_link_37 : decode cX5_link 37 = .ok (.aload_n 0, 1) := by decide +kernel
theorem dX5_link_38 : decode cX5_link 38 = .ok (.getfield 106, 3) := by decide +kernel
theorem dX5_link_41 : decode cX5_link 41 = .ok (.bipush 6, 2) := by decide +kernel
theorem dX5_link_43 : decode cX5_link 43 = .ok (.if_icmp .ne 7, 3) := by decide +kernel
theorem dX5_link_46 : decode cX5_link 46 = .ok (.iconst 2, 1) := by decide +kernel
theorem dX5_link_47 : decode cX5_link 47 = .ok (.goto 4, 3) := by decide +kernel
theorem dX5_link_50 : decode cX5_link 50 = .ok (.iconst 0, 1) := by decide +kernel
theorem dX5_link_51 : decode cX5_link 51 = .ok (.putfield 71, 3) := by decide +kernel
theorem dX5_link_54 : decode cX5_link 54 = .ok (.aload_n 0, 1) := by decide +kernel
theorem dX5_link_55 : decode cX5_link 55 = .ok (.getfield 71, 3) := by decide +kernel
theorem dX5_link_58 : decode cX5_link 58 = .ok (.ifCond .le 5, 3) := by decide +kernel
theorem dX5_link_61 : decode cX5_link 61 = .ok (.iconst 0, 1) := by decide +kernel
theorem dX5_link_62 : decode cX5_link 62 = .ok (.ireturn, 1) := by decide +kernel
theorem dX5_link_63 : decode cX5_link 63 = .ok (.aload_n 0, 1) := by decide +kernel
theorem dX5_link_64 : decode cX5_link 64 = .ok (.getfield 29, 3) := by decide +kernel
theorem dX5_link_67 : decode cX5_link 67 = .ok (.aload_n 0, 1) := by decide +kernel
theorem dX5_link_68 : decode cX5_link 68 = .ok (.getfield 106, 3) := by decide +kernel
theorem dX5_link_71 : decode cX5_link 71 = .ok (.iload_n 1, 1) := by decide +kernel
theorem dX5_link_72 : decode cX5_link 72 = .ok (.iastore, 1) := by decide +kernel
theorem dX5_link_73 : decode cX5_link 73 = .ok (.aload_n 0, 1) := by decide +kernel
theorem dX5_link_74 : decode cX5_link 74 = .ok (.getfield 32, 3) := by decide +kernel
theorem dX5_link_77 : decode cX5_link 77 = .ok (.aload_n 0, 1) := by decide +kernel
theorem dX5_link_78 : decode cX5_link 78 = .ok (.getfield 106, 3) := by decide +kernel
theorem dX5_link_81 : decode cX5_link 81 = .ok (.iload_n 2, 1) := by decide +kernel
theorem dX5_link_82 : decode cX5_link 82 = .ok (.iastore, 1) := by decide +kernel
theorem dX5_link_83 : decode cX5_link 83 = .ok (.aload_n 0, 1) := by decide +kernel
theorem dX5_link_84 : decode cX5_link 84 = .ok (.getfield 35, 3) := by decide +kernel
theorem dX5_link_87 : decode cX5_link 87 = .ok (.aload_n 0, 1) := by decide +kernel
theorem dX5_link_88 : decode cX5_link 88 = .ok (.getfield 106, 3) := by decide +kernel
theorem dX5_link_91 : decode cX5_link 91 = .ok (.iload_n 3, 1) := by decide +kernel
theorem dX5_link_92 : decode cX5_link 92 = .ok (.iastore, 1) := by decide +kernel
theorem dX5_link_93 : decode cX5_link 93 = .ok (.aload_n 0, 1) := by decide +kernel
theorem dX5_link_94 : decode cX5_link 94 = .ok (.getfield 38, 3) := by decide +kernel
theorem dX5_link_97 : decode cX5_link 97 = .ok (.aload_n 0, 1) := by decide +kernel
theorem dX5_link_98 : decode cX5_link 98 = .ok (.getfield 106, 3) := by decide +kernel
theorem dX5_link_101 : decode cX5_link 101 = .ok (.iload 4, 2) := by decide +kernel
theorem dX5_link_103 : decode cX5_link 103 = .ok (.iastore, 1) := by decide +kernel
theorem dX5_link_104 : decode cX5_link 104 = .ok (.aload_n 0, 1) := by decide +kernel
theorem dX5_link_105 : decode cX5_link 105 = .ok (.aload_n 0, 1) := by decide +kernel
theorem dX5_link_106 : decode cX5_link 106 = .ok (.getfield 106, 3) := by decide +kernel
theorem dX5_link_109 : decode cX5_link 109 = .ok (.invokevirtual 109, 3) := by decide +kernel
theorem dX5_link_112 : decode cX5_link 112 = .ok (.ifCond .eq 22, 3) := by decide +kernel
theorem dX5_link_115 : decode cX5_link 115 = .ok (.aload_n 0, 1) := by decide +kernel
theorem dX5_link_116 : decode cX5_link 116 = .ok (.iconst 3, 1) := by decide +kernel
theorem dX5_link_117 : decode cX5_link 117 = .ok (.putfield 71, 3) := by decide +kernel
theorem dX5_link_120 : decode cX5_link 120 = .ok (.aload_n 0, 1) := by decide +kernel
theorem dX5_link_121 : decode cX5_link 121 = .ok (.sipush 400, 3) := by decide +kernel
theorem dX5_link_124 : decode cX5_link 124 = .ok (.aload_n 0, 1) := by decide +kernel
theorem dX5_link_125 : decode cX5_link 125 = .ok (.getfield 106, 3) := by decide +kernel
theorem dX5_link_128 : decode cX5_link 128 = .ok (.iadd, 1) := by decide +kernel
theorem dX5_link_129 : decode cX5_link 129 = .ok (.putfield 121, 3) := by decide +kernel
theorem dX5_link_132 : decode cX5_link 132 = .ok (.iconst 0, 1) := by decide +kernel
theorem dX5_link_133 : decode cX5_link 133 = .ok (.ireturn, 1) := by decide +kernel
theorem dX5_link_134 : decode cX5_link 134 = .ok (.aload_n 0, 1) := by decide +kernel
theorem dX5_link_135 : decode cX5_link 135 = .ok (.dup, 1) := by decide +kernel
theorem dX5_link_136 : decode cX5_link 136 = .ok (.getfield 106, 3) := by decide +kernel
theorem dX5_link_139 : decode cX5_link 139 = .ok (.iconst 1, 1) := by decide +kernel
theorem dX5_link_140 : decode cX5_link 140 = .ok (.iadd, 1) := by decide +kernel
theorem dX5_link_141 : decode cX5_link 141 = .ok (.putfield 106, 3) := by decide +kernel
theorem dX5_link_144 : decode cX5_link 144 = .ok (.aload_n 0, 1) := by decide +kernel
theorem dX5_link_145 : decode cX5_link 145 = .ok (.getfield 106, 3) := by decide +kernel
theorem dX5_link_148 : decode cX5_link 148 = .ok (.iconst 1, 1) := by decide +kernel
theorem dX5_link_149 : decode cX5_link 149 = .ok (.isub, 1) := by decide +kernel
theorem dX5_link_150 : decode cX5_link 150 = .ok (.ireturn, 1) := by decide +kernel
set_option maxRecDepth 20000 in
theorem ggX5_single_X5_isColumn : GoodIn wsX5_single wsX5_isColumn := goodIn_r _ [10, 11, 12, 13, 14, 9, 15, 16, 24, 25, 26, 27, 28, 29, 30, 31, 32, 33, 34, 35, 36, 37, 38, 39, 40, 41, 42, 43, 44, 45, 46, 47, 48, 49, 50, 51, 52, 53, 54] (by decide +kernel) (by decide +kernel)
set_option maxRecDepth 20000 in
theorem gX5_single_X5_isColumn : GoodIn wsX5_single (wsV RX5 118 RX5 yX5_isColumn wsX5_isColumn) := goodIn_app (goodIn_of _ (by decide +kernel)) ggX5_single_X5_isColumn
set_option maxRecDepth 20000 in
theorem ggX5_single_X5_twice : GoodIn wsX5_single wsX5_twice := goodIn_r _ [20, 21, 22, 23, 24, 25, 26, 27, 28, 29, 30, 31, 32, 33, 34, 35, 36, 37, 38, 39, 40, 41, 42, 43, 44, 45, 46, 47, 48, 49, 50, 51, 52, 53, 54] (by decide +kernel) (by decide +kernel)
set_option maxRecDepth 20000 in
theorem gX5_single_X5_twice : GoodIn wsX5_single (wsV RX5 99 RX5 yX5_twice wsX5_twice) := goodIn_app (goodIn_of _ (by decide +kernel)) ggX5_single_X5_twice
theorem dX5_single_0 : decode cX5_single 0 = .ok (.aload_n 0, 1) := by decide +kernel
theorem dX5_single_1 : decode cX5_single 1 = .ok (.aload_n 0, 1) := by decide +kernel
theorem dX5_single_2 : decode cX5_single 2 = .ok (.iload_n 1, 1) := by decide +kernel
theorem dX5_single_3 : decode cX5_single 3 = .ok (.iload_n 2, 1) := by decide +kernel
theorem dX5_single_4 : decode cX5_single 4 = .ok (.invokevirtual 118, 3) := by decide +kernel
theorem dX5_single_7 : decode cX5_single 7 = .ok (.ifCond .eq 7, 3) := by decide +kernel
theorem dX5_single_10 : decode cX5_single 10 = .ok (.iload_n 2, 1) := by decide +kernel
theorem dX5_single_11 : decode cX5_single 11 = .ok (.ifCond .ne 7, 3) := by decide +kernel
theorem dX5_single_14 : decode cX5_single 14 = .ok (.iconst 1, 1) := by decide +kernel
theorem dX5_single_15 : decode cX5_single 15 = .ok (.goto 29, 3) := by decide +kernel
theorem dX5_single_18 : decode cX5_single 18 = .ok (.aload_n 0, 1) := by decide +kernel
theorem dX5_single_19 : decode cX5_single 19 = .ok (.getfield 103, 3) := by decide +kernel
theorem dX5_single_22 : decode cX5_single 22 = .ok (.iconst 4, 1) := by decide +kernel
theorem dX5_single_23 : decode cX5_single 23 = .ok (.if_icmp .ne 7, 3) := by decide +kernel
theorem dX5_single_26 : decode cX5_single 26 = .ok (.iconst 2, 1) := by decide +kernel
theorem dX5_single_27 : decode cX5_single 27 = .ok (.goto 17, 3) := by decide +kernel
theorem dX5_single_30 : decode cX5_single 30 = .ok (.aload_n 0, 1) := by decide +kernel
theorem dX5_single_31 : decode cX5_single 31 = .ok (.iload_n 1, 1) := by decide +kernel
theorem dX5_single_32 : decode cX5_single 32 = .ok (.iload_n 2, 1) := by decide +kernel
theorem dX5_single_33 : decode cX5_single 33 = .ok (.invokevirtual 99, 3) := by decide +kernel
theorem dX5_single_36 : decode cX5_single 36 = .ok (.ifCond .eq 7, 3) := by decide +kernel
theorem dX5_single_39 : decode cX5_single 39 = .ok (.iconst 3, 1) := by decide +kernel
theorem dX5_single_40 : decode cX5_single 40 = .ok (.goto 4, 3) := by decide +kernel
theorem dX5_single_43 : decode cX5_single 43 = .ok (.iconst 0, 1) := by decide +kernel
theorem dX5_single_44 : decode cX5_single 44 = .ok (.putfield 71, 3) := by decide +kernel
theorem dX5_single_47 : decode cX5_single 47 = .ok (.aload_n 0, 1) := by decide +kernel
theorem dX5_single_48 : decode cX5_single 48 = .ok (.aload_n 0, 1) := by decide +kernel
theorem dX5_single_49 : decode cX5_single 49 = .ok (.getfield 71, 3) := by decide +kernel
theorem dX5_single_52 : decode cX5_single 52 = .ok (.iconst 3, 1) := by decide +kernel
theorem dX5_single_53 : decode cX5_single 53 = .ok (.if_icmp .ne 14, 3) := by decide +kernel
theorem dX5_single_56 : decode cX5_single 56 = .ok (.sipush 300, 3) := by decide +kernel
theorem dX5_single_59 : decode cX5_single 59 = .ok (.aload_n 0, 1) := by decide +kernel
theorem dX5_single_60 : decode cX5_single 60 = .ok (.getfield 103, 3) := by decide +kernel
theorem dX5_single_63 : decode cX5_single 63 = .ok (.iadd, 1) := by decide +kernel
theorem dX5_single_64 : decode cX5_single 64 = .ok (.goto 7, 3) := by decide +kernel
theorem dX5_single_67 : decode cX5_single 67 = .ok (.aload_n 0, 1) := by decide +kernel
theorem dX5_single_68 : decode cX5_single 68 = .ok (.getfield 121, 3) := by decide +kernel
theorem dX5_single_71 : decode cX5_single 71 = .ok (.putfield 121, 3) := by decide +kernel
theorem dX5_single_74 : decode cX5_single 74 = .ok (.aload_n 0, 1) := by decide +kernel
theorem dX5_single_75 : decode cX5_single 75 = .ok (.getfield 71, 3) := by decide +kernel
theorem dX5_single_78 : decode cX5_single 78 = .ok (.ifCond .le 5, 3) := by decide +kernel
theorem dX5_single_81 : decode cX5_single 81 = .ok (.iconst 0, 1) := by decide +kernel
theorem dX5_single_82 : decode cX5_single 82 = .ok (.ireturn, 1) := by decide +kernel
theorem dX5_single_83 : decode cX5_single 83 = .ok (.aload_n 0, 1) := by decide +kernel
theorem dX5_single_84 : decode cX5_single 84 = .ok (.getfield 41, 3) := by decide +kernel
theorem dX5_single_87 : decode cX5_single 87 = .ok (.aload_n 0, 1) := by decide +kernel
theorem dX5_single_88 : decode cX5_single 88 = .ok (.getfield 103, 3) := by decide +kernel
theorem dX5_single_91 : decode cX5_single 91 = .ok (.iload_n 1, 1) := by decide +kernel
theorem dX5_single_92 : decode cX5_single 92 = .ok (.iastore, 1) := by decide +kernel
theorem dX5_single_93 : decode cX5_single 93 = .ok (.aload_n 0, 1) := by decide +kernel
theorem dX5_single_94 : decode cX5_single 94 = .ok (.getfield 44, 3) := by decide +kernel
theorem dX5_single_97 : decode cX5_single 97 = .ok (.aload_n 0, 1) := by decide +kernel
theorem dX5_single_98 : decode cX5_single 98 = .ok (.getfield 103, 3) := by decide +kernel
theorem dX5_single_101 : decode cX5_single 101 = .ok (.iload_n 2, 1) := by decide +kernel
theorem dX5_single_102 : decode cX5_single 102 = .ok (.iastore, 1) := by decide +kernel
theorem dX5_single_103 : decode cX5_single 103 = .ok (.aload_n 0, 1) := by decide +kernel
theorem dX5_single_104 : decode cX5_single 104 = .ok (.dup, 1) := by decide +kernel
theorem dX5_single_105 : decode cX5_single 105 = .ok (.getfield 103, 3) := by decide +kernel
theorem dX5_single_108 : decode cX5_single 108 = .ok (.iconst 1, 1) := by decide +kernel
theorem dX5_single_109 : decode cX5_single 109 = .ok (.iadd, 1) := by decide +kernel
theorem dX5_single_110 : decode cX5_single 110 = .ok (.putfield 103, 3) := by decide +kernel
theorem dX5_single_113 : decode cX5_single 113 = .ok (.aload_n 0, 1) := by decide +kernel
theorem dX5_single_114 : decode cX5_single 114 = .ok (.getfield 103, 3) := by decide +kernel
theorem dX5_single_117 : decode cX5_single 117 = .ok (.iconst 1, 1) := by decide +kernel
theorem dX5_single_118 : decode cX5_single 118 = .ok (.isub, 1) := by decide +kernel
theorem dX5_single_119 : decode cX5_single 119 = .ok (.ireturn, 1) := by decide +kernel
theorem dX5_word_0 : decode cX5_word 0 = .ok (.iload_n 1, 1) := by decide +kernel
theorem dX5_word_1 : decode cX5_word 1 = .ok (.ifCond .lt 8, 3) := by decide +kernel
theorem dX5_word_4 : decode cX5_word 4 = .ok (.iload_n 1, 1) := by decide +kernel
theorem dX5_word_5 : decode cX5_word 5 = .ok (.iconst 3, 1) := by decide +kernel
theorem dX5_word_6 : decode cX5_word 6 = .ok (.if_icmp .le 28, 3) := by decide +kernel
theorem dX5_word_9 : decode cX5_word 9 = .ok (.iload_n 1, 1) := by decide +kernel
theorem dX5_word_10 : decode cX5_word 10 = .ok (.bipush 10, 2) := by decide +kernel
theorem dX5_word_12 : decode cX5_word 12 = .ok (.if_icmp .lt 9, 3) := by decide +kernel
theorem dX5_word_15 : decode cX5_word 15 = .ok (.iload_n 1, 1) := by decide +kernel
theorem dX5_word_16 : decode cX5_word 16 = .ok (.bipush 17, 2) := by decide +kernel
theorem dX5_word_18 : decode cX5_word 18 = .ok (.if_icmp .le 16, 3) := by decide +kernel
theorem dX5_word_21 : decode cX5_word 21 = .ok (.iload_n 1, 1) := by decide +kernel
theorem dX5_word_22 : decode cX5_word 22 = .ok (.bipush 100, 2) := by decide +kernel
theorem dX5_word_24 : decode cX5_word 24 = .ok (.if_icmp .lt 14, 3) := by decide +kernel
theorem dX5_word_27 : decode cX5_word 27 = .ok (.iload_n 1, 1) := by decide +kernel
theorem dX5_word_28 : decode cX5_word 28 = .ok (.sipush 300, 3) := by decide +kernel
theorem dX5_word_31 : decode cX5_word 31 = .ok (.if_icmp .gt 7, 3) := by decide +kernel
theorem dX5_word_34 : decode cX5_word 34 = .ok (.iconst 1, 1) := by decide +kernel
theorem dX5_word_35 : decode cX5_word 35 = .ok (.goto 4, 3) := by decide +kernel
theorem dX5_word_38 : decode cX5_word 38 = .ok (.iconst 0, 1) := by decide +kernel
theorem dX5_word_39 : decode cX5_word 39 = .ok (.istore_n 2, 1) := by decide +kernel
theorem dX5_word_40 : decode cX5_word 40 = .ok (.aload_n 0, 1) := by decide +kernel
theorem dX5_word_41 : decode cX5_word 41 = .ok (.iload_n 2, 1) := by decide +kernel
theorem dX5_word_42 : decode cX5_word 42 = .ok (.ifCond .ne 7, 3) := by decide +kernel
theorem dX5_word_45 : decode cX5_word 45 = .ok (.iconst 1, 1) := by decide +kernel
theorem dX5_word_46 : decode cX5_word 46 = .ok (.goto 17, 3) := by decide +kernel
theorem dX5_word_49 : decode cX5_word 49 = .ok (.aload_n 0, 1) := by decide +kernel
theorem dX5_word_50 : decode cX5_word 50 = .ok (.getfield 124, 3) := by decide +kernel
theorem dX5_word_53 : decode cX5_word 53 = .ok (.bipush 10, 2) := by decide +kernel
theorem dX5_word_55 : decode cX5_word 55 = .ok (.if_icmp .ne 7, 3) := by decide +kernel
theorem dX5_word_58 : decode cX5_word 58 = .ok (.iconst 2, 1) := by decide +kernel
theorem dX5_word_59 : decode cX5_word 59 = .ok (.goto 4, 3) := by decide +kernel
theorem dX5_word_62 : decode cX5_word 62 = .ok (.iconst 0, 1) := by decide +kernel
theorem dX5_word_63 : decode cX5_word 63 = .ok (.putfield 71, 3) := by decide +kernel
theorem dX5_word_66 : decode cX5_word 66 = .ok (.aload_n 0, 1) := by decide +kernel
theorem dX5_word_67 : decode cX5_word 67 = .ok (.getfield 71, 3) := by decide +kernel
theorem dX5_word_70 : decode cX5_word 70 = .ok (.ifCond .le 5, 3) := by decide +kernel
theorem dX5_word_73 : decode cX5_word 73 = .ok (.iconst 0, 1) := by decide +kernel
theorem dX5_word_74 : decode cX5_word 74 = .ok (.ireturn, 1) := by decide +kernel
theorem dX5_word_75 : decode cX5_word 75 = .ok (.aload_n 0, 1) := by decide +kernel
theorem dX5_word_76 : decode cX5_word 76 = .ok (.getfield 56, 3) := by decide +kernel
theorem dX5_word_79 : decode cX5_word 79 = .ok (.aload_n 0, 1) := by decide +kernel
theorem dX5_word_80 : decode cX5_word 80 = .ok (.getfield 124, 3) := by decide +kernel
theorem dX5_word_83 : decode cX5_word 83 = .ok (.iload_n 1, 1) := by decide +kernel
theorem dX5_word_84 : decode cX5_word 84 = .ok (.iastore, 1) := by decide +kernel
theorem dX5_word_85 : decode cX5_word 85 = .ok (.aload_n 0, 1) := by decide +kernel
theorem dX5_word_86 : decode cX5_word 86 = .ok (.dup, 1) := by decide +kernel
theorem dX5_word_87 : decode cX5_word 87 = .ok (.getfield 124, 3) := by decide +kernel
theorem dX5_word_90 : decode cX5_word 90 = .ok (.iconst 1, 1) := by decide +kernel
theorem dX5_word_91 : decode cX5_word 91 = .ok (.iadd, 1) := by decide +kernel
theorem dX5_word_92 : decode cX5_word 92 = .ok (.putfield 124, 3) := by decide +kernel
theorem dX5_word_95 : decode cX5_word 95 = .ok (.aload_n 0, 1) := by decide +kernel
theorem dX5_word_96 : decode cX5_word 96 = .ok (.getfield 124, 3) := by decide +kernel
theorem dX5_word_99 : decode cX5_word 99 = .ok (.ireturn, 1) := by decide +kernel
theorem dX5_isRight_0 : decode cX5_isRight 0 = .ok (.iconst 0, 1) := by decide +kernel
theorem dX5_isRight_1 : decode cX5_isRight 1 = .ok (.istore_n 2, 1) := by decide +kernel
theorem dX5_isRight_2 : decode cX5_isRight 2 = .ok (.iconst 1, 1) := by decide +kernel
theorem dX5_isRight_3 : decode cX5_isRight 3 = .ok (.istore_n 3, 1) := by decide +kernel
theorem dX5_isRight_4 : decode cX5_isRight 4 = .ok (.iconst 0, 1) := by decide +kernel
theorem dX5_isRight_5 : decode cX5_isRight 5 = .ok (.istore 4, 2) := by decide +kernel
theorem dX5_isRight_7 : decode cX5_isRight 7 = .ok (.iload 4, 2) := by decide +kernel
theorem dX5_isRight_9 : decode cX5_isRight 9 = .ok (.aload_n 0, 1) := by decide +kernel
theorem dX5_isRight_10 : decode cX5_isRight 10 = .ok (.getfield 124, 3) := by decide +kernel
theorem dX5_isRight_13 : decode cX5_isRight 13 = .ok (.if_icmp .ge 101, 3) := by decide +kernel
theorem dX5_isRight_16 : decode cX5_isRight 16 = .ok (.aload_n 0, 1) := by decide +kernel
theorem dX5_isRight_17 : decode cX5_isRight 17 = .ok (.getfield 56, 3) := by decide +kernel
theorem dX5_isRight_20 : decode cX5_isRight 20 = .ok (.iload 4, 2) := by decide +kernel
theorem dX5_isRight_22 : decode cX5_isRight 22 = .ok (.iaload, 1) := by decide +kernel
theorem dX5_isRight_23 : decode cX5_isRight 23 = .ok (.istore 5, 2) := by decide +kernel
theorem dX5_isRight_25 : decode cX5_isRight 25 = .ok (.iload 5, 2) := by decide +kernel
theorem dX5_isRight_27 : decode cX5_isRight 27 = .ok (.iconst 4, 1) := by decide +kernel
theorem dX5_isRight_28 : decode cX5_isRight 28 = .ok (.if_icmp .lt 10, 3) := by decide +kernel
theorem dX5_isRight_31 : decode cX5_isRight 31 = .ok (.iload 5, 2) := by decide +kernel
theorem dX5_isRight_33 : decode cX5_isRight 33 = .ok (.bipush 100, 2) := by decide +kernel
theorem dX5_isRight_35 : decode cX5_isRight 35 = .ok (.if_icmp .lt 7, 3) := by decide +kernel
theorem dX5_isRight_38 : decode cX5_isRight 38 = .ok (.iconst 1, 1) := by decide +kernel
theorem dX5_isRight_39 : decode cX5_isRight 39 = .ok (.goto 4, 3) := by decide +kernel
theorem dX5_isRight_42 : decode cX5_isRight 42 = .ok (.iconst 0, 1) := by decide +kernel
theorem dX5_isRight_43 : decode cX5_isRight 43 = .ok (.istore 6, 2) := by decide +kernel
theorem dX5_isRight_45 : decode cX5_isRight 45 = .ok (.iload 6, 2) := by decide +kernel
theorem dX5_isRight_47 : decode cX5_isRight 47 = .ok (.ifCond .eq 7, 3) := by decide +kernel
theorem dX5_isRight_50 : decode cX5_isRight 50 = .ok (.iconst 0, 1) := by decide +kernel
theorem dX5_isRight_51 : decode cX5_isRight 51 = .ok (.goto 15, 3) := by decide +kernel
theorem dX5_isRight_54 : decode cX5_isRight 54 = .ok (.iload 5, 2) := by decide +kernel
theorem dX5_isRight_56 : decode cX5_isRight 56 = .ok (.bipush 17, 2) := by decide +kernel
theorem dX5_isRight_58 : decode cX5_isRight 58 = .ok (.if_icmp .ne 7, 3) := by decide +kernel
theorem dX5_isRight_61 : decode cX5_isRight 61 = .ok (.iconst 1, 1) := by decide +kernel
theorem dX5_isRight_62 : decode cX5_isRight 62 = .ok (.goto 4, 3) := by decide +kernel
theorem dX5_isRight_65 : decode cX5_isRight 65 = .ok (.iconst 2, 1) := by decide +kernel
theorem dX5_isRight_66 : decode cX5_isRight 66 = .ok (.istore 7, 2) := by decide +kernel
theorem dX5_isRight_68 : decode cX5_isRight 68 = .ok (.iload_n 3, 1) := by decide +kernel
theorem dX5_isRight_69 : decode cX5_isRight 69 = .ok (.ifCond .eq 30, 3) := by decide +kernel
theorem dX5_isRight_72 : decode cX5_isRight 72 = .ok (.iload_n 2, 1) := by decide +kernel
theorem dX5_isRight_73 : decode cX5_isRight 73 = .ok (.iload 7, 2) := by decide +kernel
theorem dX5_isRight_75 : decode cX5_isRight 75 = .ok (.if_icmp .lt 24, 3) := by decide +kernel
theorem dX5_isRight_78 : decode cX5_isRight 78 = .ok (.iload 5, 2) := by decide +kernel
theorem dX5_isRight_80 : decode cX5_isRight 80 = .ok (.iconst 4, 1) := by decide +kernel
theorem dX5_isRight_81 : decode cX5_isRight 81 = .ok (.if_icmp .ge 14, 3) := by decide +kernel
theorem dX5_isRight_84 : decode cX5_isRight 84 = .ok (.iload 5, 2) := by decide +kernel
theorem dX5_isRight_86 : decode cX5_isRight 86 = .ok (.aload_n 0, 1) := by decide +kernel
theorem dX5_isRight_87 : decode cX5_isRight 87 = .ok (.getfield 7, 3) := by decide +kernel
theorem dX5_isRight_90 : decode cX5_isRight 90 = .ok (.iload_n 1, 1) := by decide +kernel
theorem dX5_isRight_91 : decode cX5_isRight 91 = .ok (.iaload, 1) := by decide +kernel
theorem dX5_isRight_92 : decode cX5_isRight 92 = .ok (.if_icmp .ge 7, 3) := by decide +kernel
theorem dX5_isRight_95 : decode cX5_isRight 95 = .ok (.iconst 1, 1) := by decide +kernel
theorem dX5_isRight_96 : decode cX5_isRight 96 = .ok (.goto 4, 3) := by decide +kernel
theorem dX5_isRight_99 : decode cX5_isRight 99 = .ok (.iconst 0, 1) := by decide +kernel
theorem dX5_isRight_100 : decode cX5_isRight 100 = .ok (.istore_n 3, 1) := by decide +kernel
theorem dX5_isRight_101 : decode cX5_isRight 101 = .ok (.iload_n 2, 1) := by decide +kernel
theorem dX5_isRight_102 : decode cX5_isRight 102 = .ok (.iconst 1, 1) := by decide +kernel
theorem dX5_isRight_103 : decode cX5_isRight 103 = .ok (.iload 7, 2) := by decide +kernel
theorem dX5_isRight_105 : decode cX5_isRight 105 = .ok (.isub, 1) := by decide +kernel
theorem dX5_isRight_106 : decode cX5_isRight 106 = .ok (.iadd, 1) := by decide +kernel
theorem dX5_isRight_107 : decode cX5_isRight 107 = .ok (.istore_n 2, 1) := by decide +kernel
theorem dX5_isRight_108 : decode cX5_isRight 108 = .ok (.iinc 4 1, 3) := by decide +kernel
theorem dX5_isRight_111 : decode cX5_isRight 111 = .ok (.goto (-104), 3) := by decide +kernel
theorem dX5_isRight_114 : decode cX5_isRight 114 = .ok (.iload_n 3, 1) := by decide +kernel
theorem dX5_isRight_115 : decode cX5_isRight 115 = .ok (.ifCond .eq 12, 3) := by decide +kernel
theorem dX5_isRight_118 : decode cX5_isRight 118 = .ok (.iload_n 2, 1) := by decide +kernel
theorem dX5_isRight_119 : decode cX5_isRight 119 = .ok (.iconst 1, 1) := by decide +kernel
theorem dX5_isRight_120 : decode cX5_isRight 120 = .ok (.if_icmp .ne 7, 3) := by decide +kernel
theorem dX5_isRight_123 : decode cX5_isRight 123 = .ok (.iconst 1, 1) := by decide +kernel
theorem dX5_isRight_124 : decode cX5_isRight 124 = .ok (.goto 4, 3) := by decide +kernel
theorem dX5_isRight_127 : decode cX5_isRight 127 = .ok (.iconst 0, 1) := by decide +kernel
theorem dX5_isRight_128 : decode cX5_isRight 128 = .ok (.ireturn, 1) := by decide +kernel
set_option maxRecDepth 20000 in
theorem ggX5_check_X5_isTable : GoodIn wsX5_check wsX5_isTable := goodIn_r _ [13, 14, 36, 37, 38, 39, 40, 41, 42, 43, 44, 45, 46, 47, 48, 49, 50, 51, 52, 53, 54, 55, 56, 57, 58, 59, 60, 61, 62, 63, 64, 65, 66] (by decide +kernel) (by decide +kernel)
set_option maxRecDepth 20000 in
theorem gX5_check_X5_isTable : GoodIn wsX5_check (wsV RX5 78 RX5 yX5_isTable wsX5_isTable) := goodIn_app (goodIn_of _ (by decide +kernel)) ggX5_check_X5_isTable
set_option maxRecDepth 20000 in
theorem ggX5_check_X5_isRight : GoodIn wsX5_check wsX5_isRight := goodIn_r _ [18, 2, 7, 19, 36, 37, 38, 39, 40, 41, 42, 43, 44, 45, 46, 47, 48, 49, 50, 51, 52, 53, 54, 55, 56, 57, 58, 59, 60, 61, 62, 63, 64, 65, 66] (by decide +kernel) (by decide +kernel)
set_option maxRecDepth 20000 in
theorem gX5_check_X5_isRight : GoodIn wsX5_check (wsV RX5 127 RX5 yX5_isRight wsX5_isRight) := goodIn_app (goodIn_of _ (by decide +kernel)) ggX5_check_X5_isRight
set_option maxRecDepth 20000 in
theorem ggX5_check_X5_breaksCheck : GoodIn wsX5_check wsX5_breaksCheck := goodIn_r _ [23, 24, 25, 4, 26, 27, 28, 12, 29, 30, 5, 6, 31, 32, 33, 34, 35, 36, 37, 38, 39, 40, 41, 42, 43, 44, 45, 46, 47, 48, 49, 50, 51, 52, 53, 54, 55, 56, 57, 58, 59, 60, 61, 62, 63, 64, 65, 66] (by decide +kernel) (by decide +kernel)
set_option maxRecDepth 20000 in
theorem gX5_check_X5_breaksCheck : GoodIn wsX5_check (wsV RX5 115 RX5 yX5_breaksCheck wsX5_breaksCheck) := goodIn_app (goodIn_of _ (by decide +kernel)) ggX5_check_X5_breaksCheck
theorem dX5_check_0 : decode cX5_check 0 = .ok (.aload_n 0, 1) := by decide +kernel
theorem dX5_check_1 : decode cX5_check 1 = .ok (.aload_n 0, 1) := by decide +kernel
theorem dX5_check_2 : decode cX5_check 2 = .ok (.iload_n 1, 1) := by decide +kernel
theorem dX5_check_3 : decode cX5_check 3 = .ok (.invokevirtual 78, 3) := by decide +kernel
theorem dX5_check_6 : decode cX5_check 6 = .ok (.ifCond .eq 7, 3) := by decide +kernel
theorem dX5_check_9 : decode cX5_check 9 = .ok (.iconst 0, 1) := by decide +kernel
theorem dX5_check_10 : decode cX5_check 10 = .ok (.goto 4, 3) := by decide +kernel
theorem dX5_check_13 : decode cX5_check 13 = .ok (.iconst 1, 1) := by decide +kernel
theorem dX5_check_14 : decode cX5_check 14 = .ok (.putfield 71, 3) := by decide +kernel
theorem dX5_check_17 : decode cX5_check 17 = .ok (.aload_n 0, 1) := by decide +kernel
theorem dX5_check_18 : decode cX5_check 18 = .ok (.getfield 71, 3) := by decide +kernel
theorem dX5_check_21 : decode cX5_check 21 = .ok (.ifCond .le 5, 3) := by decide +kernel
theorem dX5_check_24 : decode cX5_check 24 = .ok (.iconst 0, 1) := by decide +kernel
theorem dX5_check_25 : decode cX5_check 25 = .ok (.ireturn, 1) := by decide +kernel
theorem dX5_check_26 : decode cX5_check 26 = .ok (.aload_n 0, 1) := by decide +kernel
theorem dX5_check_27 : decode cX5_check 27 = .ok (.iload_n 1, 1) := by decide +kernel
theorem dX5_check_28 : decode cX5_check 28 = .ok (.invokevirtual 127, 3) := by decide +kernel
theorem dX5_check_31 : decode cX5_check 31 = .ok (.istore_n 2, 1) := by decide +kernel
theorem dX5_check_32 : decode cX5_check 32 = .ok (.aload_n 0, 1) := by decide +kernel
theorem dX5_check_33 : decode cX5_check 33 = .ok (.getfield 124, 3) := by decide +kernel
theorem dX5_check_36 : decode cX5_check 36 = .ok (.istore_n 3, 1) := by decide +kernel
theorem dX5_check_37 : decode cX5_check 37 = .ok (.aload_n 0, 1) := by decide +kernel
theorem dX5_check_38 : decode cX5_check 38 = .ok (.iconst 0, 1) := by decide +kernel
theorem dX5_check_39 : decode cX5_check 39 = .ok (.putfield 124, 3) := by decide +kernel
theorem dX5_check_42 : decode cX5_check 42 = .ok (.aload_n 0, 1) := by decide +kernel
theorem dX5_check_43 : decode cX5_check 43 = .ok (.iload_n 2, 1) := by decide +kernel
theorem dX5_check_44 : decode cX5_check 44 = .ok (.ifCond .ne 7, 3) := by decide +kernel
theorem dX5_check_47 : decode cX5_check 47 = .ok (.iconst 1, 1) := by decide +kernel
theorem dX5_check_48 : decode cX5_check 48 = .ok (.goto 16, 3) := by decide +kernel
theorem dX5_check_51 : decode cX5_check 51 = .ok (.aload_n 0, 1) := by decide +kernel
theorem dX5_check_52 : decode cX5_check 52 = .ok (.getfield 112, 3) := by decide +kernel
theorem dX5_check_55 : decode cX5_check 55 = .ok (.iconst 4, 1) := by decide +kernel
theorem dX5_check_56 : decode cX5_check 56 = .ok (.if_icmp .ne 7, 3) := by decide +kernel
theorem dX5_check_59 : decode cX5_check 59 = .ok (.iconst 2, 1) := by decide +kernel
theorem dX5_check_60 : decode cX5_check 60 = .ok (.goto 4, 3) := by decide +kernel
theorem dX5_check_63 : decode cX5_check 63 = .ok (.iconst 0, 1) := by decide +kernel
theorem dX5_check_64 : decode cX5_check 64 = .ok (.putfield 71, 3) := by decide +kernel
theorem dX5_check_67 : decode cX5_check 67 = .ok (.aload_n 0, 1) := by decide +kernel
theorem dX5_check_68 : decode cX5_check 68 = .ok (.getfield 71, 3) := by decide +kernel
theorem dX5_check_71 : decode cX5_check 71 = .ok (.ifCond .le 5, 3) := by decide +kernel
theorem dX5_check_74 : decode cX5_check 74 = .ok (.iconst 0, 1) := by decide +kernel
theorem dX5_check_75 : decode cX5_check 75 = .ok (.ireturn, 1) := by decide +kernel
theorem dX5_check_76 : decode cX5_check 76 = .ok (.aload_n 0, 1) := by decide +kernel
theorem dX5_check_77 : decode cX5_check 77 = .ok (.getfield 47, 3) := by decide +kernel
theorem dX5_check_80 : decode cX5_check 80 = .ok (.aload_n 0, 1) := by decide +kernel
theorem dX5_check_81 : decode cX5_check 81 = .ok (.getfield 112, 3) := by decide +kernel
theorem dX5_check_84 : decode cX5_check 84 = .ok (.iload_n 1, 1) := by decide +kernel
theorem dX5_check_85 : decode cX5_check 85 = .ok (.iastore, 1) := by decide +kernel
theorem dX5_check_86 : decode cX5_check 86 = .ok (.aload_n 0, 1) := by decide +kernel
theorem dX5_check_87 : decode cX5_check 87 = .ok (.getfield 50, 3) := by decide +kernel
theorem dX5_check_90 : decode cX5_check 90 = .ok (.aload_n 0, 1) := by decide +kernel
theorem dX5_check_91 : decode cX5_check 91 = .ok (.getfield 112, 3) := by decide +kernel
theorem dX5_check_94 : decode cX5_check 94 = .ok (.iload_n 3, 1) := by decide +kernel
theorem dX5_check_95 : decode cX5_check 95 = .ok (.iastore, 1) := by decide +kernel
theorem dX5_check_96 : decode cX5_check 96 = .ok (.iconst 0, 1) := by decide +kernel
theorem dX5_check_97 : decode cX5_check 97 = .ok (.istore 4, 2) := by decide +kernel
theorem dX5_check_99 : decode cX5_check 99 = .ok (.iload 4, 2) := by decide +kernel
theorem dX5_check_101 : decode cX5_check 101 = .ok (.iload_n 3, 1) := by decide +kernel
theorem dX5_check_102 : decode cX5_check 102 = .ok (.if_icmp .ge 31, 3) := by decide +kernel
theorem dX5_check_105 : decode cX5_check 105 = .ok (.aload_n 0, 1) := by decide +kernel
theorem dX5_check_106 : decode cX5_check 106 = .ok (.getfield 53, 3) := by decide +kernel
theorem dX5_check_109 : decode cX5_check 109 = .ok (.bipush 10, 2) := by decide +kernel
theorem dX5_check_111 : decode cX5_check 111 = .ok (.aload_n 0, 1) := by decide +kernel
theorem dX5_check_112 : decode cX5_check 112 = .ok (.getfield 112, 3) := by decide +kernel
theorem dX5_check_115 : decode cX5_check 115 = .ok (.imul, 1) := by decide +kernel
theorem dX5_check_116 : decode cX5_check 116 = .ok (.iload 4, 2) := by decide +kernel
theorem dX5_check_118 : decode cX5_check 118 = .ok (.iadd, 1) := by decide +kernel
theorem dX5_check_119 : decode cX5_check 119 = .ok (.aload_n 0, 1) := by decide +kernel
theorem dX5_check_120 : decode cX5_check 120 = .ok (.getfield 56, 3) := by decide +kernel
theorem dX5_check_123 : decode cX5_check 123 = .ok (.iload 4, 2) := by decide +kernel
theorem dX5_check_125 : decode cX5_check 125 = .ok (.iaload, 1) := by decide +kernel
theorem dX5_check_126 : decode cX5_check 126 = .ok (.iastore, 1) := by decide +kernel
theorem dX5_check_127 : decode cX5_check 127 = .ok (.iinc 4 1, 3) := by decide +kernel
theorem dX5_check_130 : decode cX5_check 130 = .ok (.goto (-31), 3) := by decide +kernel
theorem dX5_check_133 : decode cX5_check 133 = .ok (.aload_n 0, 1) := by decide +kernel
theorem dX5_check_134 : decode cX5_check 134 = .ok (.aload_n 0, 1) := by decide +kernel
theorem dX5_check_135 : decode cX5_check 135 = .ok (.getfield 112, 3) := by decide +kernel
theorem dX5_check_138 : decode cX5_check 138 = .ok (.invokevirtual 115, 3) := by decide +kernel
theorem dX5_check_141 : decode cX5_check 141 = .ok (.ifCond .eq 22, 3) := by decide +kernel
theorem dX5_check_144 : decode cX5_check 144 = .ok (.aload_n 0, 1) := by decide +kernel
theorem dX5_check_145 : decode cX5_check 145 = .ok (.iconst 3, 1) := by decide +kernel
theorem dX5_check_146 : decode cX5_check 146 = .ok (.putfield 71, 3) := by decide +kernel
theorem dX5_check_149 : decode cX5_check 149 = .ok (.aload_n 0, 1) := by decide +kernel
theorem dX5_check_150 : decode cX5_check 150 = .ok (.sipush 500, 3) := by decide +kernel
theorem dX5_check_153 : decode cX5_check 153 = .ok (.aload_n 0, 1) := by decide +kernel
theorem dX5_check_154 : decode cX5_check 154 = .ok (.getfield 112, 3) := by decide +kernel
theorem dX5_check_157 : decode cX5_check 157 = .ok (.iadd, 1) := by decide +kernel
theorem dX5_check_158 : decode cX5_check 158 = .ok (.putfield 121, 3) := by decide +kernel
theorem dX5_check_161 : decode cX5_check 161 = .ok (.iconst 0, 1) := by decide +kernel
theorem dX5_check_162 : decode cX5_check 162 = .ok (.ireturn, 1) := by decide +kernel
theorem dX5_check_163 : decode cX5_check 163 = .ok (.aload_n 0, 1) := by decide +kernel
theorem dX5_check_164 : decode cX5_check 164 = .ok (.dup, 1) := by decide +kernel
theorem dX5_check_165 : decode cX5_check 165 = .ok (.getfield 112, 3) := by decide +kernel
theorem dX5_check_168 : decode cX5_check 168 = .ok (.iconst 1, 1) := by decide +kernel
theorem dX5_check_169 : decode cX5_check 169 = .ok (.iadd, 1) := by decide +kernel
theorem dX5_check_170 : decode cX5_check 170 = .ok (.putfield 112, 3) := by decide +kernel
theorem dX5_check_173 : decode cX5_check 173 = .ok (.aload_n 0, 1) := by decide +kernel
theorem dX5_check_174 : decode cX5_check 174 = .ok (.getfield 112, 3) := by decide +kernel
theorem dX5_check_177 : decode cX5_check 177 = .ok (.iconst 1, 1) := by decide +kernel
theorem dX5_check_178 : decode cX5_check 178 = .ok (.isub, 1) := by decide +kernel
theorem dX5_check_179 : decode cX5_check 179 = .ok (.ireturn, 1) := by decide +kernel
theorem dX5_remember_0 : decode cX5_remember 0 = .ok (.aload_n 0, 1) := by decide +kernel
theorem dX5_remember_1 : decode cX5_remember 1 = .ok (.aload_n 0, 1) := by decide +kernel
theorem dX5_remember_2 : decode cX5_remember 2 = .ok (.getfield 82, 3) := by decide +kernel
theorem dX5_remember_5 : decode cX5_remember 5 = .ok (.putfield 130, 3) := by decide +kernel
theorem dX5_remember_8 : decode cX5_remember 8 = .ok (.iconst 0, 1) := by decide +kernel
theorem dX5_remember_9 : decode cX5_remember 9 = .ok (.istore_n 1, 1) := by decide +kernel
theorem dX5_remember_10 : decode cX5_remember 10 = .ok (.iload_n 1, 1) := by decide +kernel
theorem dX5_remember_11 : decode cX5_remember 11 = .ok (.aload_n 0, 1) := by decide +kernel
theorem dX5_remember_12 : decode cX5_remember 12 = .ok (.getfield 82, 3) := by decide +kernel
theorem dX5_remember_15 : decode cX5_remember 15 = .ok (.if_icmp .ge 28, 3) := by decide +kernel
theorem dX5_remember_18 : decode cX5_remember 18 = .ok (.aload_n 0, 1) := by decide +kernel
theorem dX5_remember_19 : decode cX5_remember 19 = .ok (.getfield 19, 3) := by decide +kernel
theorem dX5_remember_22 : decode cX5_remember 22 = .ok (.iload_n 1, 1) := by decide +kernel
theorem dX5_remember_23 : decode cX5_remember 23 = .ok (.aload_n 0, 1) := by decide +kernel
theorem dX5_remember_24 : decode cX5_remember 24 = .ok (.getfield 13, 3) := by decide +kernel
theorem dX5_remember_27 : decode cX5_remember 27 = .ok (.iload_n 1, 1) := by decide +kernel
theorem dX5_remember_28 : decode cX5_remember 28 = .ok (.iaload, 1) := by decide +kernel
theorem dX5_remember_29 : decode cX5_remember 29 = .ok (.iastore, 1) := by decide +kernel
theorem dX5_remember_30 : decode cX5_remember 30 = .ok (.aload_n 0, 1) := by decide +kernel
theorem dX5_remember_31 : decode cX5_remember 31 = .ok (.getfield 25, 3) := by decide +kernel
theorem dX5_remember_34 : decode cX5_remember 34 = .ok (.iload_n 1, 1) := by decide +kernel
theorem dX5_remember_35 : decode cX5_remember 35 = .ok (.iconst 0, 1) := by decide +kernel
theorem dX5_remember_36 : decode cX5_remember 36 = .ok (.bastore, 1) := by decide +kernel
theorem dX5_remember_37 : decode cX5_remember 37 = .ok (.iinc 1 1, 3) := by decide +kernel
theorem dX5_remember_40 : decode cX5_remember 40 = .ok (.goto (-30), 3) := by decide +kernel
theorem dX5_remember_43 : decode cX5_remember 43 = .ok (.iconst 0, 1) := by decide +kernel
theorem dX5_remember_44 : decode cX5_remember 44 = .ok (.istore_n 1, 1) := by decide +kernel
theorem dX5_remember_45 : decode cX5_remember 45 = .ok (.iload_n 1, 1) := by decide +kernel
theorem dX5_remember_46 : decode cX5_remember 46 = .ok (.iconst 4, 1) := by decide +kernel
theorem dX5_remember_47 : decode cX5_remember 47 = .ok (.aload_n 0, 1) := by decide +kernel
theorem dX5_remember_48 : decode cX5_remember 48 = .ok (.getfield 82, 3) := by decide +kernel
theorem dX5_remember_51 : decode cX5_remember 51 = .ok (.imul, 1) := by decide +kernel
theorem dX5_remember_52 : decode cX5_remember 52 = .ok (.if_icmp .ge 21, 3) := by decide +kernel
theorem dX5_remember_55 : decode cX5_remember 55 = .ok (.aload_n 0, 1) := by decide +kernel
theorem dX5_remember_56 : decode cX5_remember 56 = .ok (.getfield 22, 3) := by decide +kernel
theorem dX5_remember_59 : decode cX5_remember 59 = .ok (.iload_n 1, 1) := by decide +kernel
theorem dX5_remember_60 : decode cX5_remember 60 = .ok (.aload_n 0, 1) := by decide +kernel
theorem dX5_remember_61 : decode cX5_remember 61 = .ok (.getfield 16, 3) := by decide +kernel
theorem dX5_remember_64 : decode cX5_remember 64 = .ok (.iload_n 1, 1) := by decide +kernel
theorem dX5_remember_65 : decode cX5_remember 65 = .ok (.iaload, 1) := by decide +kernel
theorem dX5_remember_66 : decode cX5_remember 66 = .ok (.iastore, 1) := by decide +kernel
theorem dX5_remember_67 : decode cX5_remember 67 = .ok (.iinc 1 1, 3) := by decide +kernel
theorem dX5_remember_70 : decode cX5_remember 70 = .ok (.goto (-25), 3) := by decide +kernel
theorem dX5_remember_73 : decode cX5_remember 73 = .ok (.return_, 1) := by decide +kernel
theorem dX5_restore_0 : decode cX5_restore 0 = .ok (.aload_n 0, 1) := by decide +kernel
theorem dX5_restore_1 : decode cX5_restore 1 = .ok (.aload_n 0, 1) := by decide +kernel
theorem dX5_restore_2 : decode cX5_restore 2 = .ok (.getfield 130, 3) := by decide +kernel
theorem dX5_restore_5 : decode cX5_restore 5 = .ok (.putfield 82, 3) := by decide +kernel
theorem dX5_restore_8 : decode cX5_restore 8 = .ok (.iconst 0, 1) := by decide +kernel
theorem dX5_restore_9 : decode cX5_restore 9 = .ok (.istore_n 1, 1) := by decide +kernel
theorem dX5_restore_10 : decode cX5_restore 10 = .ok (.iload_n 1, 1) := by decide +kernel
theorem dX5_restore_11 : decode cX5_restore 11 = .ok (.aload_n 0, 1) := by decide +kernel
theorem dX5_restore_12 : decode cX5_restore 12 = .ok (.getfield 82, 3) := by decide +kernel
theorem dX5_restore_15 : decode cX5_restore 15 = .ok (.if_icmp .ge 21, 3) := by decide +kernel
theorem dX5_restore_18 : decode cX5_restore 18 = .ok (.aload_n 0, 1) := by decide +kernel
theorem dX5_restore_19 : decode cX5_restore 19 = .ok (.getfield 13, 3) := by decide +kernel
theorem dX5_restore_22 : decode cX5_restore 22 = .ok (.iload_n 1, 1) := by decide +kernel
theorem dX5_restore_23 : decode cX5_restore 23 = .ok (.aload_n 0, 1) := by decide +kernel
theorem dX5_restore_24 : decode cX5_restore 24 = .ok (.getfield 19, 3) := by decide +kernel
theorem dX5_restore_27 : decode cX5_restore 27 = .ok (.iload_n 1, 1) := by decide +kernel
theorem dX5_restore_28 : decode cX5_restore 28 = .ok (.iaload, 1) := by decide +kernel
theorem dX5_restore_29 : decode cX5_restore 29 = .ok (.iastore, 1) := by decide +kernel
theorem dX5_restore_30 : decode cX5_restore 30 = .ok (.iinc 1 1, 3) := by decide +kernel
theorem dX5_restore_33 : decode cX5_restore 33 = .ok (.goto (-23), 3) := by decide +kernel
theorem dX5_restore_36 : decode cX5_restore 36 = .ok (.iconst 0, 1) := by decide +kernel
theorem dX5_restore_37 : decode cX5_restore 37 = .ok (.istore_n 1, 1) := by decide +kernel
theorem dX5_restore_38 : decode cX5_restore 38 = .ok (.iload_n 1, 1) := by decide +kernel
theorem dX5_restore_39 : decode cX5_restore 39 = .ok (.iconst 4, 1) := by decide +kernel
theorem dX5_restore_40 : decode cX5_restore 40 = .ok (.aload_n 0, 1) := by decide +kernel
theorem dX5_restore_41 : decode cX5_restore 41 = .ok (.getfield 82, 3) := by decide +kernel
theorem dX5_restore_44 : decode cX5_restore 44 = .ok (.imul, 1) := by decide +kernel
theorem dX5_restore_45 : decode cX5_restore 45 = .ok (.if_icmp .ge 21, 3) := by decide +kernel
theorem dX5_restore_48 : decode cX5_restore 48 = .ok (.aload_n 0, 1) := by decide +kernel
theorem dX5_restore_49 : decode cX5_restore 49 = .ok (.getfield 16, 3) := by decide +kernel
theorem dX5_restore_52 : decode cX5_restore 52 = .ok (.iload_n 1, 1) := by decide +kernel
theorem dX5_restore_53 : decode cX5_restore 53 = .ok (.aload_n 0, 1) := by decide +kernel
theorem dX5_restore_54 : decode cX5_restore 54 = .ok (.getfield 22, 3) := by decide +kernel
theorem dX5_restore_57 : decode cX5_restore 57 = .ok (.iload_n 1, 1) := by decide +kernel
theorem dX5_restore_58 : decode cX5_restore 58 = .ok (.iaload, 1) := by decide +kernel
theorem dX5_restore_59 : decode cX5_restore 59 = .ok (.iastore, 1) := by decide +kernel
theorem dX5_restore_60 : decode cX5_restore 60 = .ok (.iinc 1 1, 3) := by decide +kernel
theorem dX5_restore_63 : decode cX5_restore 63 = .ok (.goto (-25), 3) := by decide +kernel
theorem dX5_restore_66 : decode cX5_restore 66 = .ok (.return_, 1) := by decide +kernel
set_option maxRecDepth 20000 in
theorem ggX5_settle_X5_wrong : GoodIn wsX5_settle wsX5_wrong := goodIn_r _ [6, 7, 8, 9, 10, 11, 12, 13, 14, 15, 5, 16, 17, 18, 19, 20, 21, 22, 23, 24, 25, 26, 27, 28, 29, 30, 31, 32, 33, 34, 35, 36, 37, 38, 39, 40, 41, 42, 43, 44, 45, 46, 54, 55, 56, 57, 58, 59, 60, 61, 62, 63, 64, 65, 66, 67, 68, 69, 70, 71, 72, 73, 74, 75, 76, 77, 78, 79, 80, 81, 82, 83, 84] (by decide +kernel) (by decide +kernel)
set_option maxRecDepth 20000 in
theorem gX5_settle_X5_wrong : GoodIn wsX5_settle (wsV RX5 133 RX5 yX5_wrong wsX5_wrong) := goodIn_app (goodIn_of _ (by decide +kernel)) ggX5_settle_X5_wrong
set_option maxRecDepth 20000 in
theorem ggX5_settle_X5_restore : GoodIn wsX5_settle wsX5_restore := goodIn_r _ [50, 51, 17, 18, 52, 19, 53, 54, 55, 56, 57, 58, 59, 60, 61, 62, 63, 64, 65, 66, 67, 68, 69, 70, 71, 72, 73, 74, 75, 76, 77, 78, 79, 80, 81, 82, 83, 84] (by decide +kernel) (by decide +kernel)
set_option maxRecDepth 20000 in
theorem gX5_settle_X5_restore : GoodIn wsX5_settle (wsV RX5 137 RX5 yX5_restore wsX5_restore) := goodIn_app (goodIn_of _ (by decide +kernel)) ggX5_settle_X5_restore
theorem dX5_settle_0 : decode cX5_settle 0 = .ok (.iload_n 1, 1) := by decide +kernel
theorem dX5_settle_1 : decode cX5_settle 1 = .ok (.ifCond .le 7, 3) := by decide +kernel
theorem dX5_settle_4 : decode cX5_settle 4 = .ok (.iload_n 1, 1) := by decide +kernel
theorem dX5_settle_5 : decode cX5_settle 5 = .ok (.goto 7, 3) := by decide +kernel
theorem dX5_settle_8 : decode cX5_settle 8 = .ok (.aload_n 0, 1) := by decide +kernel
theorem dX5_settle_9 : decode cX5_settle 9 = .ok (.invokevirtual 133, 3) := by decide +kernel
theorem dX5_settle_12 : decode cX5_settle 12 = .ok (.istore_n 3, 1) := by decide +kernel
theorem dX5_settle_13 : decode cX5_settle 13 = .ok (.iload_n 3, 1) := by decide +kernel
theorem dX5_settle_14 : decode cX5_settle 14 = .ok (.ifCond .ne 5, 3) := by decide +kernel
theorem dX5_settle_17 : decode cX5_settle 17 = .ok (.iconst 0, 1) := by decide +kernel
theorem dX5_settle_18 : decode cX5_settle 18 = .ok (.ireturn, 1) := by decide +kernel
theorem dX5_settle_19 : decode cX5_settle 19 = .ok (.aload_n 0, 1) := by decide +kernel
theorem dX5_settle_20 : decode cX5_settle 20 = .ok (.invokevirtual 137, 3) := by decide +kernel
theorem dX5_settle_23 : decode cX5_settle 23 = .ok (.aload_n 0, 1) := by decide +kernel
theorem dX5_settle_24 : decode cX5_settle 24 = .ok (.iload_n 3, 1) := by decide +kernel
theorem dX5_settle_25 : decode cX5_settle 25 = .ok (.putfield 121, 3) := by decide +kernel
theorem dX5_settle_28 : decode cX5_settle 28 = .ok (.iload_n 2, 1) := by decide +kernel
theorem dX5_settle_29 : decode cX5_settle 29 = .ok (.ireturn, 1) := by decide +kernel
theorem dX5_referred_0 : decode cX5_referred 0 = .ok (.aload_n 0, 1) := by decide +kernel
theorem dX5_referred_1 : decode cX5_referred 1 = .ok (.getfield 22, 3) := by decide +kernel
theorem dX5_referred_4 : decode cX5_referred 4 = .ok (.iconst 4, 1) := by decide +kernel
theorem dX5_referred_5 : decode cX5_referred 5 = .ok (.iload_n 2, 1) := by decide +kernel
theorem dX5_referred_6 : decode cX5_referred 6 = .ok (.imul, 1) := by decide +kernel
theorem dX5_referred_7 : decode cX5_referred 7 = .ok (.aload_n 0, 1) := by decide +kernel
theorem dX5_referred_8 : decode cX5_referred 8 = .ok (.getfield 32, 3) := by decide +kernel
theorem dX5_referred_11 : decode cX5_referred 11 = .ok (.iload_n 1, 1) := by decide +kernel
theorem dX5_referred_12 : decode cX5_referred 12 = .ok (.iaload, 1) := by decide +kernel
theorem dX5_referred_13 : decode cX5_referred 13 = .ok (.iadd, 1) := by decide +kernel
theorem dX5_referred_14 : decode cX5_referred 14 = .ok (.iaload, 1) := by decide +kernel
theorem dX5_referred_15 : decode cX5_referred 15 = .ok (.istore 4, 2) := by decide +kernel
theorem dX5_referred_17 : decode cX5_referred 17 = .ok (.aload_n 0, 1) := by decide +kernel
theorem dX5_referred_18 : decode cX5_referred 18 = .ok (.getfield 19, 3) := by decide +kernel
theorem dX5_referred_21 : decode cX5_referred 21 = .ok (.iload_n 2, 1) := by decide +kernel
theorem dX5_referred_22 : decode cX5_referred 22 = .ok (.iaload, 1) := by decide +kernel
theorem dX5_referred_23 : decode cX5_referred 23 = .ok (.aload_n 0, 1) := by decide +kernel
theorem dX5_referred_24 : decode cX5_referred 24 = .ok (.getfield 29, 3) := by decide +kernel
theorem dX5_referred_27 : decode cX5_referred 27 = .ok (.iload_n 1, 1) := by decide +kernel
theorem dX5_referred_28 : decode cX5_referred 28 = .ok (.iaload, 1) := by decide +kernel
theorem dX5_referred_29 : decode cX5_referred 29 = .ok (.if_icmp .ne 40, 3) := by decide +kernel
theorem dX5_referred_32 : decode cX5_referred 32 = .ok (.aload_n 0, 1) := by decide +kernel
theorem dX5_referred_33 : decode cX5_referred 33 = .ok (.getfield 19, 3) := by decide +kernel
theorem dX5_referred_36 : decode cX5_referred 36 = .ok (.iload_n 3, 1) := by decide +kernel
theorem dX5_referred_37 : decode cX5_referred 37 = .ok (.iaload, 1) := by decide +kernel
theorem dX5_referred_38 : decode cX5_referred 38 = .ok (.aload_n 0, 1) := by decide +kernel
theorem dX5_referred_39 : decode cX5_referred 39 = .ok (.getfield 35, 3) := by decide +kernel
theorem dX5_referred_42 : decode cX5_referred 42 = .ok (.iload_n 1, 1) := by decide +kernel
theorem dX5_referred_43 : decode cX5_referred 43 = .ok (.iaload, 1) := by decide +kernel
theorem dX5_referred_44 : decode cX5_referred 44 = .ok (.if_icmp .ne 25, 3) := by decide +kernel
theorem dX5_referred_47 : decode cX5_referred 47 = .ok (.iload 4, 2) := by decide +kernel
theorem dX5_referred_49 : decode cX5_referred 49 = .ok (.ifCond .eq 20, 3) := by decide +kernel
theorem dX5_referred_52 : decode cX5_referred 52 = .ok (.iload 4, 2) := by decide +kernel
theorem dX5_referred_54 : decode cX5_referred 54 = .ok (.aload_n 0, 1) := by decide +kernel
theorem dX5_referred_55 : decode cX5_referred 55 = .ok (.getfield 22, 3) := by decide +kernel
theorem dX5_referred_58 : decode cX5_referred 58 = .ok (.iconst 4, 1) := by decide +kernel
theorem dX5_referred_59 : decode cX5_referred 59 = .ok (.iload_n 3, 1) := by decide +kernel
theorem dX5_referred_60 : decode cX5_referred 60 = .ok (.imul, 1) := by decide +kernel
theorem dX5_referred_61 : decode cX5_referred 61 = .ok (.iaload, 1) := by decide +kernel
theorem dX5_referred_62 : decode cX5_referred 62 = .ok (.if_icmp .ne 7, 3) := by decide +kernel
theorem dX5_referred_65 : decode cX5_referred 65 = .ok (.iconst 1, 1) := by decide +kernel
theorem dX5_referred_66 : decode cX5_referred 66 = .ok (.goto 4, 3) := by decide +kernel
theorem dX5_referred_69 : decode cX5_referred 69 = .ok (.iconst 0, 1) := by decide +kernel
theorem dX5_referred_70 : decode cX5_referred 70 = .ok (.ireturn, 1) := by decide +kernel
set_option maxRecDepth 20000 in
theorem ggX5_insert_X5_isTable : GoodIn wsX5_insert wsX5_isTable := goodIn_r _ [10, 11, 69, 70, 71, 72, 73, 74, 75, 76, 77, 78, 79, 80, 81, 82, 83, 84, 85, 86, 87, 88, 89, 90, 91, 92, 93, 94, 95, 96, 97, 98, 99] (by decide +kernel) (by decide +kernel)
set_option maxRecDepth 20000 in
theorem gX5_insert_X5_isTable : GoodIn wsX5_insert (wsV RX5 78 RX5 yX5_isTable wsX5_isTable) := goodIn_app (goodIn_of _ (by decide +kernel)) ggX5_insert_X5_isTable
set_option maxRecDepth 20000 in
theorem ggX5_insert_X5_remember : GoodIn wsX5_insert wsX5_remember := goodIn_r _ [15, 1, 16, 17, 3, 18, 19, 4, 69, 70, 71, 72, 73, 74, 75, 76, 77, 78, 79, 80, 81, 82, 83, 84, 85, 86, 87, 88, 89, 90, 91, 92, 93, 94, 95, 96, 97, 98, 99] (by decide +kernel) (by decide +kernel)
set_option maxRecDepth 20000 in
theorem gX5_insert_X5_remember : GoodIn wsX5_insert (wsV RX5 140 RX5 yX5_remember wsX5_remember) := goodIn_app (goodIn_of _ (by decide +kernel)) ggX5_insert_X5_remember
set_option maxRecDepth 20000 in
theorem ggX5_insert_X5_settle : GoodIn wsX5_insert wsX5_settle := goodIn_r _ [23, 24, 25, 26, 27, 9, 28, 11, 29, 30, 31, 32, 33, 34, 35, 36, 37, 1, 3, 4, 38, 39, 40, 41, 42, 43, 44, 45, 46, 47, 48, 49, 50, 51, 52, 53, 54, 55, 56, 57, 58, 59, 60, 61, 62, 63, 64, 65, 66, 67, 68, 16, 17, 19, 69, 70, 71, 72, 73, 74, 75, 76, 77, 78, 79, 80, 81, 82, 83, 84, 85, 86, 87, 88, 89, 90, 91, 92, 93, 94, 95, 96, 97, 98, 99] (by decide +kernel) (by decide +kernel)
set_option maxRecDepth 20000 in
theorem gX5_insert_X5_settle : GoodIn wsX5_insert (wsV RX5 143 RX5 yX5_settle wsX5_settle) := goodIn_app (goodIn_of _ (by decide +kernel)) ggX5_insert_X5_settle
theorem dX5_insert_0 : decode cX5_insert 0 = .ok (.aload_n 0, 1) := by decide +kernel
theorem dX5_insert_1 : decode cX5_insert 1 = .ok (.aload_n 0, 1) := by decide +kernel
theorem dX5_insert_2 : decode cX5_insert 2 = .ok (.iload_n 1, 1) := by decide +kernel
theorem dX5_insert_3 : decode cX5_insert 3 = .ok (.invokevirtual 78, 3) := by decide +kernel
theorem dX5_insert_6 : decode cX5_insert 6 = .ok (.ifCond .eq 7, 3) := by decide +kernel
theorem dX5_insert_9 : decode cX5_insert 9 = .ok (.iload_n 2, 1) := by decide +kernel
theorem dX5_insert_10 : decode cX5_insert 10 = .ok (.ifCond .ne 7, 3) := by decide +kernel
theorem dX5_insert_13 : decode cX5_insert 13 = .ok (.iconst 1, 1) := by decide +kernel
theorem dX5_insert_14 : decode cX5_insert 14 = .ok (.goto 17, 3) := by decide +kernel
theorem dX5_insert_17 : decode cX5_insert 17 = .ok (.aload_n 0, 1) := by decide +kernel
theorem dX5_insert_18 : decode cX5_insert 18 = .ok (.getfield 82, 3) := by decide +kernel
theorem dX5_insert_21 : decode cX5_insert 21 = .ok (.bipush 24, 2) := by decide +kernel
theorem dX5_insert_23 : decode cX5_insert 23 = .ok (.if_icmp .ne 7, 3) := by decide +kernel
theorem dX5_insert_26 : decode cX5_insert 26 = .ok (.iconst 2, 1) := by decide +kernel
theorem dX5_insert_27 : decode cX5_insert 27 = .ok (.goto 4, 3) := by decide +kernel
theorem dX5_insert_30 : decode cX5_insert 30 = .ok (.iconst 0, 1) := by decide +kernel
theorem dX5_insert_31 : decode cX5_insert 31 = .ok (.putfield 71, 3) := by decide +kernel
theorem dX5_insert_34 : decode cX5_insert 34 = .ok (.aload_n 0, 1) := by decide +kernel
theorem dX5_insert_35 : decode cX5_insert 35 = .ok (.getfield 71, 3) := by decide +kernel
theorem dX5_insert_38 : decode cX5_insert 38 = .ok (.ifCond .le 4, 3) := by decide +kernel
theorem dX5_insert_41 : decode cX5_insert 41 = .ok (.return_, 1) := by decide +kernel
theorem dX5_insert_42 : decode cX5_insert 42 = .ok (.aload_n 0, 1) := by decide +kernel
theorem dX5_insert_43 : decode cX5_insert 43 = .ok (.invokevirtual 140, 3) := by decide +kernel
theorem dX5_insert_46 : decode cX5_insert 46 = .ok (.aload_n 0, 1) := by decide +kernel
theorem dX5_insert_47 : decode cX5_insert 47 = .ok (.getfield 13, 3) := by decide +kernel
theorem dX5_insert_50 : decode cX5_insert 50 = .ok (.aload_n 0, 1) := by decide +kernel
theorem dX5_insert_51 : decode cX5_insert 51 = .ok (.getfield 82, 3) := by decide +kernel
theorem dX5_insert_54 : decode cX5_insert 54 = .ok (.iload_n 1, 1) := by decide +kernel
theorem dX5_insert_55 : decode cX5_insert 55 = .ok (.iastore, 1) := by decide +kernel
theorem dX5_insert_56 : decode cX5_insert 56 = .ok (.aload_n 0, 1) := by decide +kernel
theorem dX5_insert_57 : decode cX5_insert 57 = .ok (.getfield 16, 3) := by decide +kernel
theorem dX5_insert_60 : decode cX5_insert 60 = .ok (.iconst 4, 1) := by decide +kernel
theorem dX5_insert_61 : decode cX5_insert 61 = .ok (.aload_n 0, 1) := by decide +kernel
theorem dX5_insert_62 : decode cX5_insert 62 = .ok (.getfield 82, 3) := by decide +kernel
theorem dX5_insert_65 : decode cX5_insert 65 = .ok (.imul, 1) := by decide +kernel
theorem dX5_insert_66 : decode cX5_insert 66 = .ok (.iload_n 2, 1) := by decide +kernel
theorem dX5_insert_67 : decode cX5_insert 67 = .ok (.iastore, 1) := by decide +kernel
theorem dX5_insert_68 : decode cX5_insert 68 = .ok (.aload_n 0, 1) := by decide +kernel
theorem dX5_insert_69 : decode cX5_insert 69 = .ok (.getfield 16, 3) := by decide +kernel
theorem dX5_insert_72 : decode cX5_insert 72 = .ok (.iconst 4, 1) := by decide +kernel
theorem dX5_insert_73 : decode cX5_insert 73 = .ok (.aload_n 0, 1) := by decide +kernel
theorem dX5_insert_74 : decode cX5_insert 74 = .ok (.getfield 82, 3) := by decide +kernel
theorem dX5_insert_77 : decode cX5_insert 77 = .ok (.imul, 1) := by decide +kernel
theorem dX5_insert_78 : decode cX5_insert 78 = .ok (.iconst 1, 1) := by decide +kernel
theorem dX5_insert_79 : decode cX5_insert 79 = .ok (.iadd, 1) := by decide +kernel
theorem dX5_insert_80 : decode cX5_insert 80 = .ok (.iload_n 3, 1) := by decide +kernel
theorem dX5_insert_81 : decode cX5_insert 81 = .ok (.iastore, 1) := by decide +kernel
theorem dX5_insert_82 : decode cX5_insert 82 = .ok (.aload_n 0, 1) := by decide +kernel
theorem dX5_insert_83 : decode cX5_insert 83 = .ok (.getfield 16, 3) := by decide +kernel
theorem dX5_insert_86 : decode cX5_insert 86 = .ok (.iconst 4, 1) := by decide +kernel
theorem dX5_insert_87 : decode cX5_insert 87 = .ok (.aload_n 0, 1) := by decide +kernel
theorem dX5_insert_88 : decode cX5_insert 88 = .ok (.getfield 82, 3) := by decide +kernel
theorem dX5_insert_91 : decode cX5_insert 91 = .ok (.imul, 1) := by decide +kernel
theorem dX5_insert_92 : decode cX5_insert 92 = .ok (.iconst 2, 1) := by decide +kernel
theorem dX5_insert_93 : decode cX5_insert 93 = .ok (.iadd, 1) := by decide +kernel
theorem dX5_insert_94 : decode cX5_insert 94 = .ok (.aload_n 0, 1) := by decide +kernel
theorem dX5_insert_95 : decode cX5_insert 95 = .ok (.getfield 7, 3) := by decide +kernel
theorem dX5_insert_98 : decode cX5_insert 98 = .ok (.iload_n 1, 1) := by decide +kernel
theorem dX5_insert_99 : decode cX5_insert 99 = .ok (.iaload, 1) := by decide +kernel
theorem dX5_insert_100 : decode cX5_insert 100 = .ok (.iconst 2, 1) := by decide +kernel
theorem dX5_insert_101 : decode cX5_insert 101 = .ok (.if_icmp .le 8, 3) := by decide +kernel
theorem dX5_insert_104 : decode cX5_insert 104 = .ok (.iload 4, 2) := by decide +kernel
theorem dX5_insert_106 : decode cX5_insert 106 = .ok (.goto 4, 3) := by decide +kernel
theorem dX5_insert_109 : decode cX5_insert 109 = .ok (.iconst 0, 1) := by decide +kernel
theorem dX5_insert_110 : decode cX5_insert 110 = .ok (.iastore, 1) := by decide +kernel
theorem dX5_insert_111 : decode cX5_insert 111 = .ok (.aload_n 0, 1) := by decide +kernel
theorem dX5_insert_112 : decode cX5_insert 112 = .ok (.getfield 16, 3) := by decide +kernel
theorem dX5_insert_115 : decode cX5_insert 115 = .ok (.iconst 4, 1) := by decide +kernel
theorem dX5_insert_116 : decode cX5_insert 116 = .ok (.aload_n 0, 1) := by decide +kernel
theorem dX5_insert_117 : decode cX5_insert 117 = .ok (.getfield 82, 3) := by decide +kernel
theorem dX5_insert_120 : decode cX5_insert 120 = .ok (.imul, 1) := by decide +kernel
theorem dX5_insert_121 : decode cX5_insert 121 = .ok (.iconst 3, 1) := by decide +kernel
theorem dX5_insert_122 : decode cX5_insert 122 = .ok (.iadd, 1) := by decide +kernel
theorem dX5_insert_123 : decode cX5_insert 123 = .ok (.aload_n 0, 1) := by decide +kernel
theorem dX5_insert_124 : decode cX5_insert 124 = .ok (.getfield 7, 3) := by decide +kernel
theorem dX5_insert_127 : decode cX5_insert 127 = .ok (.iload_n 1, 1) := by decide +kernel
theorem dX5_insert_128 : decode cX5_insert 128 = .ok (.iaload, 1) := by decide +kernel
theorem dX5_insert_129 : decode cX5_insert 129 = .ok (.iconst 3, 1) := by decide +kernel
theorem dX5_insert_130 : decode cX5_insert 130 = .ok (.if_icmp .le 8, 3) := by decide +kernel
theorem dX5_insert_133 : decode cX5_insert 133 = .ok (.iload 5, 2) := by decide +kernel
theorem dX5_insert_135 : decode cX5_insert 135 = .ok (.goto 4, 3) := by decide +kernel
theorem dX5_insert_138 : decode cX5_insert 138 = .ok (.iconst 0, 1) := by decide +kernel
theorem dX5_insert_139 : decode cX5_insert 139 = .ok (.iastore, 1) := by decide +kernel
theorem dX5_insert_140 : decode cX5_insert 140 = .ok (.aload_n 0, 1) := by decide +kernel
theorem dX5_insert_141 : decode cX5_insert 141 = .ok (.dup, 1) := by decide +kernel
theorem dX5_insert_142 : decode cX5_insert 142 = .ok (.getfield 82, 3) := by decide +kernel
theorem dX5_insert_145 : decode cX5_insert 145 = .ok (.iconst 1, 1) := by decide +kernel
theorem dX5_insert_146 : decode cX5_insert 146 = .ok (.iadd, 1) := by decide +kernel
theorem dX5_insert_147 : decode cX5_insert 147 = .ok (.putfield 82, 3) := by decide +kernel
theorem dX5_insert_150 : decode cX5_insert 150 = .ok (.aload_n 0, 1) := by decide +kernel
theorem dX5_insert_151 : decode cX5_insert 151 = .ok (.aload_n 0, 1) := by decide +kernel
theorem dX5_insert_152 : decode cX5_insert 152 = .ok (.iconst 0, 1) := by decide +kernel
theorem dX5_insert_153 : decode cX5_insert 153 = .ok (.iconst 3, 1) := by decide +kernel
theorem dX5_insert_154 : decode cX5_insert 154 = .ok (.invokevirtual 143, 3) := by decide +kernel
theorem dX5_insert_157 : decode cX5_insert 157 = .ok (.putfield 71, 3) := by decide +kernel
theorem dX5_insert_160 : decode cX5_insert 160 = .ok (.return_, 1) := by decide +kernel
set_option maxRecDepth 20000 in
theorem ggX5_spread_X5_referred : GoodIn wsX5_spread wsX5_referred := goodIn_r _ [9, 10, 11, 12, 13, 14, 15, 16, 17, 18, 19, 20, 21, 22, 23, 24, 25, 26, 27, 28, 29, 30, 31, 32, 33, 34, 35, 36, 37, 38, 39, 40, 41, 42, 43, 44, 45] (by decide +kernel) (by decide +kernel)
set_option maxRecDepth 20000 in
theorem gX5_spread_X5_referred : GoodIn wsX5_spread (wsV RX5 146 RX5 yX5_referred wsX5_referred) := goodIn_app (goodIn_of _ (by decide +kernel)) ggX5_spread_X5_referred
theorem dX5_spread_0 : decode cX5_spread 0 = .ok (.iconst 1, 1) := by decide +kernel
theorem dX5_spread_1 : decode cX5_spread 1 = .ok (.istore_n 1, 1) := by decide +kernel
theorem dX5_spread_2 : decode cX5_spread 2 = .ok (.iload_n 1, 1) := by decide +kernel
theorem dX5_spread_3 : decode cX5_spread 3 = .ok (.ifCond .eq 107, 3) := by decide +kernel
theorem dX5_spread_6 : decode cX5_spread 6 = .ok (.iconst 0, 1) := by decide +kernel
theorem dX5_spread_7 : decode cX5_spread 7 = .ok (.istore_n 1, 1) := by decide +kernel
theorem dX5_spread_8 : decode cX5_spread 8 = .ok (.iconst 0, 1) := by decide +kernel
theorem dX5_spread_9 : decode cX5_spread 9 = .ok (.istore_n 2, 1) := by decide +kernel
theorem dX5_spread_10 : decode cX5_spread 10 = .ok (.iload_n 2, 1) := by decide +kernel
theorem dX5_spread_11 : decode cX5_spread 11 = .ok (.aload_n 0, 1) := by decide +kernel
theorem dX5_spread_12 : decode cX5_spread 12 = .ok (.getfield 106, 3) := by decide +kernel
theorem dX5_spread_15 : decode cX5_spread 15 = .ok (.if_icmp .ge 92, 3) := by decide +kernel
theorem dX5_spread_18 : decode cX5_spread 18 = .ok (.iconst 0, 1) := by decide +kernel
theorem dX5_spread_19 : decode cX5_spread 19 = .ok (.istore_n 3, 1) := by decide +kernel
theorem dX5_spread_20 : decode cX5_spread 20 = .ok (.iload_n 3, 1) := by decide +kernel
theorem dX5_spread_21 : decode cX5_spread 21 = .ok (.aload_n 0, 1) := by decide +kernel
theorem dX5_spread_22 : decode cX5_spread 22 = .ok (.getfield 82, 3) := by decide +kernel
theorem dX5_spread_25 : decode cX5_spread 25 = .ok (.if_icmp .ge 76, 3) := by decide +kernel
theorem dX5_spread_28 : decode cX5_spread 28 = .ok (.iconst 0, 1) := by decide +kernel
theorem dX5_spread_29 : decode cX5_spread 29 = .ok (.istore 4, 2) := by decide +kernel
theorem dX5_spread_31 : decode cX5_spread 31 = .ok (.iload 4, 2) := by decide +kernel
theorem dX5_spread_33 : decode cX5_spread 33 = .ok (.aload_n 0, 1) := by decide +kernel
theorem dX5_spread_34 : decode cX5_spread 34 = .ok (.getfield 82, 3) := by decide +kernel
theorem dX5_spread_37 : decode cX5_spread 37 = .ok (.if_icmp .ge 58, 3) := by decide +kernel
theorem dX5_spread_40 : decode cX5_spread 40 = .ok (.aload_n 0, 1) := by decide +kernel
theorem dX5_spread_41 : decode cX5_spread 41 = .ok (.getfield 38, 3) := by decide +kernel
theorem dX5_spread_44 : decode cX5_spread 44 = .ok (.iload_n 2, 1) := by decide +kernel
theorem dX5_spread_45 : decode cX5_spread 45 = .ok (.iaload, 1) := by decide +kernel
theorem dX5_spread_46 : decode cX5_spread 46 = .ok (.iconst 1, 1) := by decide +kernel
theorem dX5_spread_47 : decode cX5_spread 47 = .ok (.if_icmp .ne 42, 3) := by decide +kernel
theorem dX5_spread_50 : decode cX5_spread 50 = .ok (.aload_n 0, 1) := by decide +kernel
theorem dX5_spread_51 : decode cX5_spread 51 = .ok (.getfield 25, 3) := by decide +kernel
theorem dX5_spread_54 : decode cX5_spread 54 = .ok (.iload 4, 2) := by decide +kernel
theorem dX5_spread_56 : decode cX5_spread 56 = .ok (.baload, 1) := by decide +kernel
theorem dX5_spread_57 : decode cX5_spread 57 = .ok (.ifCond .eq 32, 3) := by decide +kernel
theorem dX5_spread_60 : decode cX5_spread 60 = .ok (.aload_n 0, 1) := by decide +kernel
theorem dX5_spread_61 : decode cX5_spread 61 = .ok (.getfield 25, 3) := by decide +kernel
theorem dX5_spread_64 : decode cX5_spread 64 = .ok (.iload_n 3, 1) := by decide +kernel
theorem dX5_spread_65 : decode cX5_spread 65 = .ok (.baload, 1) := by decide +kernel
theorem dX5_spread_66 : decode cX5_spread 66 = .ok (.ifCond .ne 23, 3) := by decide +kernel
theorem dX5_spread_69 : decode cX5_spread 69 = .ok (.aload_n 0, 1) := by decide +kernel
theorem dX5_spread_70 : decode cX5_spread 70 = .ok (.iload_n 2, 1) := by decide +kernel
theorem dX5_spread_71 : decode cX5_spread 71 = .ok (.iload_n 3, 1) := by decide +kernel
theorem dX5_spread_72 : decode cX5_spread 72 = .ok (.iload 4, 2) := by decide +kernel
theorem dX5_spread_74 : decode cX5_spread 74 = .ok (.invokevirtual 146, 3) := by decide +kernel
theorem dX5_spread_77 : decode cX5_spread 77 = .ok (.ifCond .eq 12, 3) := by decide +kernel
theorem dX5_spread_80 : decode cX5_spread 80 = .ok (.aload_n 0, 1) := by decide +kernel
theorem dX5_spread_81 : decode cX5_spread 81 = .ok (.getfield 25, 3) := by decide +kernel
theorem dX5_spread_84 : decode cX5_spread 84 = .ok (.iload_n 3, 1) := by decide +kernel
theorem dX5_spread_85 : decode cX5_spread 85 = .ok (.iconst 1, 1) := by decide +kernel
theorem dX5_spread_86 : decode cX5_spread 86 = .ok (.bastore, 1) := by decide +kernel
theorem dX5_spread_87 : decode cX5_spread 87 = .ok (.iconst 1, 1) := by decide +kernel
theorem dX5_spread_88 : decode cX5_spread 88 = .ok (.istore_n 1, 1) := by decide +kernel
theorem dX5_spread_89 : decode cX5_spread 89 = .ok (.iinc 4 1, 3) := by decide +kernel
theorem dX5_spread_92 : decode cX5_spread 92 = .ok (.goto (-61), 3) := by decide +kernel
theorem dX5_spread_95 : decode cX5_spread 95 = .ok (.iinc 3 1, 3) := by decide +kernel
theorem dX5_spread_98 : decode cX5_spread 98 = .ok (.goto (-78), 3) := by decide +kernel
theorem dX5_spread_101 : decode cX5_spread 101 = .ok (.iinc 2 1, 3) := by decide +kernel
theorem dX5_spread_104 : decode cX5_spread 104 = .ok (.goto (-94), 3) := by decide +kernel
theorem dX5_spread_107 : decode cX5_spread 107 = .ok (.goto (-105), 3) := by decide +kernel
theorem dX5_spread_110 : decode cX5_spread 110 = .ok (.return_, 1) := by decide +kernel
set_option maxRecDepth 20000 in
theorem ggX5_loosen_X5_referred : GoodIn wsX5_loosen wsX5_referred := goodIn_r _ [11, 12, 6, 13, 14, 15, 16, 17, 18, 19, 20, 21, 22, 23, 24, 25, 26, 27, 28, 29, 30, 31, 32, 33, 34, 35, 36, 37, 38, 39, 40, 41, 42, 43, 44, 45, 46] (by decide +kernel) (by decide +kernel)
set_option maxRecDepth 20000 in
theorem gX5_loosen_X5_referred : GoodIn wsX5_loosen (wsV RX5 146 RX5 yX5_referred wsX5_referred) := goodIn_app (goodIn_of _ (by decide +kernel)) ggX5_loosen_X5_referred
theorem dX5_loosen_0 : decode cX5_loosen 0 = .ok (.iconst 0, 1) := by decide +kernel
theorem dX5_loosen_1 : decode cX5_loosen 1 = .ok (.istore_n 1, 1) := by decide +kernel
theorem dX5_loosen_2 : decode cX5_loosen 2 = .ok (.aload_n 0, 1) := by decide +kernel
theorem dX5_loosen_3 : decode cX5_loosen 3 = .ok (.getfield 106, 3) := by decide +kernel
theorem dX5_loosen_6 : decode cX5_loosen 6 = .ok (.iconst 1, 1) := by decide +kernel
theorem dX5_loosen_7 : decode cX5_loosen 7 = .ok (.isub, 1) := by decide +kernel
theorem dX5_loosen_8 : decode cX5_loosen 8 = .ok (.istore_n 2, 1) := by decide +kernel
theorem dX5_loosen_9 : decode cX5_loosen 9 = .ok (.iload_n 2, 1) := by decide +kernel
theorem dX5_loosen_10 : decode cX5_loosen 10 = .ok (.ifCond .lt 130, 3) := by decide +kernel
theorem dX5_loosen_13 : decode cX5_loosen 13 = .ok (.iconst 0, 1) := by decide +kernel
theorem dX5_loosen_14 : decode cX5_loosen 14 = .ok (.istore_n 3, 1) := by decide +kernel
theorem dX5_loosen_15 : decode cX5_loosen 15 = .ok (.iload_n 3, 1) := by decide +kernel
theorem dX5_loosen_16 : decode cX5_loosen 16 = .ok (.aload_n 0, 1) := by decide +kernel
theorem dX5_loosen_17 : decode cX5_loosen 17 = .ok (.getfield 82, 3) := by decide +kernel
theorem dX5_loosen_20 : decode cX5_loosen 20 = .ok (.if_icmp .ge 114, 3) := by decide +kernel
theorem dX5_loosen_23 : decode cX5_loosen 23 = .ok (.iconst 0, 1) := by decide +kernel
theorem dX5_loosen_24 : decode cX5_loosen 24 = .ok (.istore 4, 2) := by decide +kernel
theorem dX5_loosen_26 : decode cX5_loosen 26 = .ok (.iload 4, 2) := by decide +kernel
theorem dX5_loosen_28 : decode cX5_loosen 28 = .ok (.aload_n 0, 1) := by decide +kernel
theorem dX5_loosen_29 : decode cX5_loosen 29 = .ok (.getfield 82, 3) := by decide +kernel
theorem dX5_loosen_32 : decode cX5_loosen 32 = .ok (.if_icmp .ge 96, 3) := by decide +kernel
theorem dX5_loosen_35 : decode cX5_loosen 35 = .ok (.aload_n 0, 1) := by decide +kernel
theorem dX5_loosen_36 : decode cX5_loosen 36 = .ok (.getfield 25, 3) := by decide +kernel
theorem dX5_loosen_39 : decode cX5_loosen 39 = .ok (.iload 4, 2) := by decide +kernel
theorem dX5_loosen_41 : decode cX5_loosen 41 = .ok (.baload, 1) := by decide +kernel
theorem dX5_loosen_42 : decode cX5_loosen 42 = .ok (.ifCond .eq 27, 3) := by decide +kernel
theorem dX5_loosen_45 : decode cX5_loosen 45 = .ok (.aload_n 0, 1) := by decide +kernel
theorem dX5_loosen_46 : decode cX5_loosen 46 = .ok (.getfield 25, 3) := by decide +kernel
theorem dX5_loosen_49 : decode cX5_loosen 49 = .ok (.iload_n 3, 1) := by decide +kernel
theorem dX5_loosen_50 : decode cX5_loosen 50 = .ok (.baload, 1) := by decide +kernel
theorem dX5_loosen_51 : decode cX5_loosen 51 = .ok (.ifCond .ne 18, 3) := by decide +kernel
theorem dX5_loosen_54 : decode cX5_loosen 54 = .ok (.aload_n 0, 1) := by decide +kernel
theorem dX5_loosen_55 : decode cX5_loosen 55 = .ok (.iload_n 2, 1) := by decide +kernel
theorem dX5_loosen_56 : decode cX5_loosen 56 = .ok (.iload_n 3, 1) := by decide +kernel
theorem dX5_loosen_57 : decode cX5_loosen 57 = .ok (.iload 4, 2) := by decide +kernel
theorem dX5_loosen_59 : decode cX5_loosen 59 = .ok (.invokevirtual 146, 3) := by decide +kernel
theorem dX5_loosen_62 : decode cX5_loosen 62 = .ok (.ifCond .eq 7, 3) := by decide +kernel
theorem dX5_loosen_65 : decode cX5_loosen 65 = .ok (.iconst 1, 1) := by decide +kernel
theorem dX5_loosen_66 : decode cX5_loosen 66 = .ok (.goto 4, 3) := by decide +kernel
theorem dX5_loosen_69 : decode cX5_loosen 69 = .ok (.iconst 0, 1) := by decide +kernel
theorem dX5_loosen_70 : decode cX5_loosen 70 = .ok (.istore 5, 2) := by decide +kernel
theorem dX5_loosen_72 : decode cX5_loosen 72 = .ok (.iload 5, 2) := by decide +kernel
theorem dX5_loosen_74 : decode cX5_loosen 74 = .ok (.ifCond .eq 17, 3) := by decide +kernel
theorem dX5_loosen_77 : decode cX5_loosen 77 = .ok (.aload_n 0, 1) := by decide +kernel
theorem dX5_loosen_78 : decode cX5_loosen 78 = .ok (.getfield 38, 3) := by decide +kernel
theorem dX5_loosen_81 : decode cX5_loosen 81 = .ok (.iload_n 2, 1) := by decide +kernel
theorem dX5_loosen_82 : decode cX5_loosen 82 = .ok (.iaload, 1) := by decide +kernel
theorem dX5_loosen_83 : decode cX5_loosen 83 = .ok (.ifCond .ne 8, 3) := by decide +kernel
theorem dX5_loosen_86 : decode cX5_loosen 86 = .ok (.bipush 100, 2) := by decide +kernel
theorem dX5_loosen_88 : decode cX5_loosen 88 = .ok (.iload_n 2, 1) := by decide +kernel
theorem dX5_loosen_89 : decode cX5_loosen 89 = .ok (.iadd, 1) := by decide +kernel
theorem dX5_loosen_90 : decode cX5_loosen 90 = .ok (.istore_n 1, 1) := by decide +kernel
theorem dX5_loosen_91 : decode cX5_loosen 91 = .ok (.iload 5, 2) := by decide +kernel
theorem dX5_loosen_93 : decode cX5_loosen 93 = .ok (.ifCond .eq 29, 3) := by decide +kernel
theorem dX5_loosen_96 : decode cX5_loosen 96 = .ok (.aload_n 0, 1) := by decide +kernel
theorem dX5_loosen_97 : decode cX5_loosen 97 = .ok (.getfield 38, 3) := by decide +kernel
theorem dX5_loosen_100 : decode cX5_loosen 100 = .ok (.iload_n 2, 1) := by decide +kernel
theorem dX5_loosen_101 : decode cX5_loosen 101 = .ok (.iaload, 1) := by decide +kernel
theorem dX5_loosen_102 : decode cX5_loosen 102 = .ok (.iconst 2, 1) := by decide +kernel
theorem dX5_loosen_103 : decode cX5_loosen 103 = .ok (.if_icmp .ne 19, 3) := by decide +kernel
theorem dX5_loosen_106 : decode cX5_loosen 106 = .ok (.aload_n 0, 1) := by decide +kernel
theorem dX5_loosen_107 : decode cX5_loosen 107 = .ok (.getfield 16, 3) := by decide +kernel
theorem dX5_loosen_110 : decode cX5_loosen 110 = .ok (.iconst 4, 1) := by decide +kernel
theorem dX5_loosen_111 : decode cX5_loosen 111 = .ok (.iload_n 3, 1) := by decide +kernel
theorem dX5_loosen_112 : decode cX5_loosen 112 = .ok (.imul, 1) := by decide +kernel
theorem dX5_loosen_113 : decode cX5_loosen 113 = .ok (.aload_n 0, 1) := by decide +kernel
theorem dX5_loosen_114 : decode cX5_loosen 114 = .ok (.getfield 32, 3) := by decide +kernel
theorem dX5_loosen_117 : decode cX5_loosen 117 = .ok (.iload_n 2, 1) := by decide +kernel
theorem dX5_loosen_118 : decode cX5_loosen 118 = .ok (.iaload, 1) := by decide +kernel
theorem dX5_loosen_119 : decode cX5_loosen 119 = .ok (.iadd, 1) := by decide +kernel
theorem dX5_loosen_120 : decode cX5_loosen 120 = .ok (.iconst 0, 1) := by decide +kernel
theorem dX5_loosen_121 : decode cX5_loosen 121 = .ok (.iastore, 1) := by decide +kernel
theorem dX5_loosen_122 : decode cX5_loosen 122 = .ok (.iinc 4 1, 3) := by decide +kernel
theorem dX5_loosen_125 : decode cX5_loosen 125 = .ok (.goto (-99), 3) := by decide +kernel
theorem dX5_loosen_128 : decode cX5_loosen 128 = .ok (.iinc 3 1, 3) := by decide +kernel
theorem dX5_loosen_131 : decode cX5_loosen 131 = .ok (.goto (-116), 3) := by decide +kernel
theorem dX5_loosen_134 : decode cX5_loosen 134 = .ok (.iinc 2 (-1), 3) := by decide +kernel
theorem dX5_loosen_137 : decode cX5_loosen 137 = .ok (.goto (-128), 3) := by decide +kernel
theorem dX5_loosen_140 : decode cX5_loosen 140 = .ok (.iload_n 1, 1) := by decide +kernel
theorem dX5_loosen_141 : decode cX5_loosen 141 = .ok (.ireturn, 1) := by decide +kernel
set_option maxRecDepth 20000 in
theorem ggX5_delete_X5_isColumn : GoodIn wsX5_delete wsX5_isColumn := goodIn_r _ [11, 12, 13, 14, 15, 10, 16, 17, 86, 87, 88, 89, 90, 91, 92, 93, 94, 95, 96, 97, 98, 99, 100, 101, 102, 103, 104, 105, 106, 107, 108, 109, 110, 111, 112, 113, 114, 115, 116] (by decide +kernel) (by decide +kernel)
set_option maxRecDepth 20000 in
theorem gX5_delete_X5_isColumn : GoodIn wsX5_delete (wsV RX5 118 RX5 yX5_isColumn wsX5_isColumn) := goodIn_app (goodIn_of _ (by decide +kernel)) ggX5_delete_X5_isColumn
set_option maxRecDepth 20000 in
theorem ggX5_delete_X5_remember : GoodIn wsX5_delete wsX5_remember := goodIn_r _ [21, 2, 6, 22, 4, 3, 23, 5, 86, 87, 88, 89, 90, 91, 92, 93, 94, 95, 96, 97, 98, 99, 100, 101, 102, 103, 104, 105, 106, 107, 108, 109, 110, 111, 112, 113, 114, 115, 116] (by decide +kernel) (by decide +kernel)
set_option maxRecDepth 20000 in
theorem gX5_delete_X5_remember : GoodIn wsX5_delete (wsV RX5 140 RX5 yX5_remember wsX5_remember) := goodIn_app (goodIn_of _ (by decide +kernel)) ggX5_delete_X5_remember
set_option maxRecDepth 20000 in
theorem ggX5_delete_X5_spread : GoodIn wsX5_delete wsX5_spread := goodIn_r _ [27, 28, 2, 29, 3, 30, 31, 32, 10, 33, 23, 34, 22, 35, 36, 86, 87, 88, 89, 90, 91, 92, 93, 94, 95, 96, 97, 98, 99, 100, 101, 102, 103, 104, 105, 106, 107, 108, 109, 110, 111, 112, 113, 114, 115, 116] (by decide +kernel) (by decide +kernel)
set_option maxRecDepth 20000 in
theorem gX5_delete_X5_spread : GoodIn wsX5_delete (wsV RX5 150 RX5 yX5_spread wsX5_spread) := goodIn_app (goodIn_of _ (by decide +kernel)) ggX5_delete_X5_spread
set_option maxRecDepth 20000 in
theorem ggX5_delete_X5_loosen : GoodIn wsX5_delete wsX5_loosen := goodIn_r _ [40, 28, 2, 3, 29, 5, 34, 30, 31, 32, 10, 33, 23, 22, 35, 36, 86, 87, 88, 89, 90, 91, 92, 93, 94, 95, 96, 97, 98, 99, 100, 101, 102, 103, 104, 105, 106, 107, 108, 109, 110, 111, 112, 113, 114, 115, 116] (by decide +kernel) (by decide +kernel)
set_option maxRecDepth 20000 in
theorem gX5_delete_X5_loosen : GoodIn wsX5_delete (wsV RX5 153 RX5 yX5_loosen wsX5_loosen) := goodIn_app (goodIn_of _ (by decide +kernel)) ggX5_delete_X5_loosen
set_option maxRecDepth 20000 in
theorem ggX5_delete_X5_settle : GoodIn wsX5_delete wsX5_settle := goodIn_r _ [44, 45, 46, 47, 48, 10, 49, 17, 50, 51, 52, 28, 53, 54, 55, 56, 57, 2, 4, 5, 58, 59, 60, 61, 34, 35, 36, 62, 63, 64, 65, 66, 67, 68, 69, 70, 71, 72, 73, 74, 75, 76, 77, 78, 79, 80, 81, 82, 83, 84, 85, 6, 22, 23, 86, 87, 88, 89, 90, 91, 92, 93, 94, 95, 96, 97, 98, 99, 100, 101, 102, 103, 104, 105, 106, 107, 108, 109, 110, 111, 112, 113, 114, 115, 116] (by decide +kernel) (by decide +kernel)
set_option maxRecDepth 20000 in
theorem gX5_delete_X5_settle : GoodIn wsX5_delete (wsV RX5 143 RX5 yX5_settle wsX5_settle) := goodIn_app (goodIn_of _ (by decide +kernel)) ggX5_delete_X5_settle
theorem dX5_delete_0 : decode cX5_delete 0 = .ok (.aload_n 0, 1) := by decide +kernel
theorem dX5_delete_1 : decode cX5_delete 1 = .ok (.aload_n 0, 1) := by decide +kernel
theorem dX5_delete_2 : decode cX5_delete 2 = .ok (.iload_n 1, 1) := by decide +kernel
theorem dX5_delete_3 : decode cX5_delete 3 = .ok (.iload_n 2, 1) := by decide +kernel
theorem dX5_delete_4 : decode cX5_delete 4 = .ok (.invokevirtual 118, 3) := by decide +kernel
theorem dX5_delete_7 : decode cX5_delete 7 = .ok (.ifCond .eq 7, 3) := by decide +kernel
theorem dX5_delete_10 : decode cX5_delete 10 = .ok (.iconst 0, 1) := by decide +kernel
theorem dX5_delete_11 : decode cX5_delete 11 = .ok (.goto 4, 3) := by decide +kernel
theorem dX5_delete_14 : decode cX5_delete 14 = .ok (.iconst 1, 1) := by decide +kernel
theorem dX5_delete_15 : decode cX5_delete 15 = .ok (.putfield 71, 3) := by decide +kernel
theorem dX5_delete_18 : decode cX5_delete 18 = .ok (.aload_n 0, 1) := by decide +kernel
theorem dX5_delete_19 : decode cX5_delete 19 = .ok (.getfield 71, 3) := by decide +kernel
theorem dX5_delete_22 : decode cX5_delete 22 = .ok (.ifCond .le 5, 3) := by decide +kernel
theorem dX5_delete_25 : decode cX5_delete 25 = .ok (.iconst 0, 1) := by decide +kernel
theorem dX5_delete_26 : decode cX5_delete 26 = .ok (.ireturn, 1) := by decide +kernel
theorem dX5_delete_27 : decode cX5_delete 27 = .ok (.aload_n 0, 1) := by decide +kernel
theorem dX5_delete_28 : decode cX5_delete 28 = .ok (.invokevirtual 140, 3) := by decide +kernel
theorem dX5_delete_31 : decode cX5_delete 31 = .ok (.iconst 0, 1) := by decide +kernel
theorem dX5_delete_32 : decode cX5_delete 32 = .ok (.istore 4, 2) := by decide +kernel
theorem dX5_delete_34 : decode cX5_delete 34 = .ok (.iload 4, 2) := by decide +kernel
theorem dX5_delete_36 : decode cX5_delete 36 = .ok (.aload_n 0, 1) := by decide +kernel
theorem dX5_delete_37 : decode cX5_delete 37 = .ok (.getfield 82, 3) := by decide +kernel
theorem dX5_delete_40 : decode cX5_delete 40 = .ok (.if_icmp .ge 47, 3) := by decide +kernel
theorem dX5_delete_43 : decode cX5_delete 43 = .ok (.aload_n 0, 1) := by decide +kernel
theorem dX5_delete_44 : decode cX5_delete 44 = .ok (.getfield 25, 3) := by decide +kernel
theorem dX5_delete_47 : decode cX5_delete 47 = .ok (.iload 4, 2) := by decide +kernel
theorem dX5_delete_49 : decode cX5_delete 49 = .ok (.aload_n 0, 1) := by decide +kernel
theorem dX5_delete_50 : decode cX5_delete 50 = .ok (.getfield 13, 3) := by decide +kernel
theorem dX5_delete_53 : decode cX5_delete 53 = .ok (.iload 4, 2) := by decide +kernel
theorem dX5_delete_55 : decode cX5_delete 55 = .ok (.iaload, 1) := by decide +kernel
theorem dX5_delete_56 : decode cX5_delete 56 = .ok (.iload_n 1, 1) := by decide +kernel
theorem dX5_delete_57 : decode cX5_delete 57 = .ok (.if_icmp .ne 22, 3) := by decide +kernel
theorem dX5_delete_60 : decode cX5_delete 60 = .ok (.aload_n 0, 1) := by decide +kernel
theorem dX5_delete_61 : decode cX5_delete 61 = .ok (.getfield 16, 3) := by decide +kernel
theorem dX5_delete_64 : decode cX5_delete 64 = .ok (.iconst 4, 1) := by decide +kernel
theorem dX5_delete_65 : decode cX5_delete 65 = .ok (.iload 4, 2) := by decide +kernel
theorem dX5_delete_67 : decode cX5_delete 67 = .ok (.imul, 1) := by decide +kernel
theorem dX5_delete_68 : decode cX5_delete 68 = .ok (.iload_n 2, 1) := by decide +kernel
theorem dX5_delete_69 : decode cX5_delete 69 = .ok (.iadd, 1) := by decide +kernel
theorem dX5_delete_70 : decode cX5_delete 70 = .ok (.iaload, 1) := by decide +kernel
theorem dX5_delete_71 : decode cX5_delete 71 = .ok (.iload_n 3, 1) := by decide +kernel
theorem dX5_delete_72 : decode cX5_delete 72 = .ok (.if_icmp .ne 7, 3) := by decide +kernel
theorem dX5_delete_75 : decode cX5_delete 75 = .ok (.iconst 1, 1) := by decide +kernel
theorem dX5_delete_76 : decode cX5_delete 76 = .ok (.goto 4, 3) := by decide +kernel
theorem dX5_delete_79 : decode cX5_delete 79 = .ok (.iconst 0, 1) := by decide +kernel
theorem dX5_delete_80 : decode cX5_delete 80 = .ok (.bastore, 1) := by decide +kernel
theorem dX5_delete_81 : decode cX5_delete 81 = .ok (.iinc 4 1, 3) := by decide +kernel
theorem dX5_delete_84 : decode cX5_delete 84 = .ok (.goto (-50), 3) := by decide +kernel
theorem dX5_delete_87 : decode cX5_delete 87 = .ok (.aload_n 0, 1) := by decide +kernel
theorem dX5_delete_88 : decode cX5_delete 88 = .ok (.invokevirtual 150, 3) := by decide +kernel
theorem dX5_delete_91 : decode cX5_delete 91 = .ok (.aload_n 0, 1) := by decide +kernel
theorem dX5_delete_92 : decode cX5_delete 92 = .ok (.invokevirtual 153, 3) := by decide +kernel
theorem dX5_delete_95 : decode cX5_delete 95 = .ok (.istore 4, 2) := by decide +kernel
theorem dX5_delete_97 : decode cX5_delete 97 = .ok (.iconst 0, 1) := by decide +kernel
theorem dX5_delete_98 : decode cX5_delete 98 = .ok (.istore 5, 2) := by decide +kernel
theorem dX5_delete_100 : decode cX5_delete 100 = .ok (.iconst 0, 1) := by decide +kernel
theorem dX5_delete_101 : decode cX5_delete 101 = .ok (.istore 6, 2) := by decide +kernel
theorem dX5_delete_103 : decode cX5_delete 103 = .ok (.iload 6, 2) := by decide +kernel
theorem dX5_delete_105 : decode cX5_delete 105 = .ok (.aload_n 0, 1) := by decide +kernel
theorem dX5_delete_106 : decode cX5_delete 106 = .ok (.getfield 130, 3) := by decide +kernel
theorem dX5_delete_109 : decode cX5_delete 109 = .ok (.if_icmp .ge 75, 3) := by decide +kernel
theorem dX5_delete_112 : decode cX5_delete 112 = .ok (.aload_n 0, 1) := by decide +kernel
theorem dX5_delete_113 : decode cX5_delete 113 = .ok (.getfield 25, 3) := by decide +kernel
theorem dX5_delete_116 : decode cX5_delete 116 = .ok (.iload 6, 2) := by decide +kernel
theorem dX5_delete_118 : decode cX5_delete 118 = .ok (.baload, 1) := by decide +kernel
theorem dX5_delete_119 : decode cX5_delete 119 = .ok (.ifCond .ne 59, 3) := by decide +kernel
theorem dX5_delete_122 : decode cX5_delete 122 = .ok (.aload_n 0, 1) := by decide +kernel
theorem dX5_delete_123 : decode cX5_delete 123 = .ok (.getfield 13, 3) := by decide +kernel
theorem dX5_delete_126 : decode cX5_delete 126 = .ok (.iload 5, 2) := by decide +kernel
theorem dX5_delete_128 : decode cX5_delete 128 = .ok (.aload_n 0, 1) := by decide +kernel
theorem dX5_delete_129 : decode cX5_delete 129 = .ok (.getfield 13, 3) := by decide +kernel
theorem dX5_delete_132 : decode cX5_delete 132 = .ok (.iload 6, 2) := by decide +kernel
theorem dX5_delete_134 : decode cX5_delete 134 = .ok (.iaload, 1) := by decide +kernel
theorem dX5_delete_135 : decode cX5_delete 135 = .ok (.iastore, 1) := by decide +kernel
theorem dX5_delete_136 : decode cX5_delete 136 = .ok (.iconst 0, 1) := by decide +kernel
theorem dX5_delete_137 : decode cX5_delete 137 = .ok (.istore 7, 2) := by decide +kernel
theorem dX5_delete_139 : decode cX5_delete 139 = .ok (.iload 7, 2) := by decide +kernel
theorem dX5_delete_141 : decode cX5_delete 141 = .ok (.iconst 4, 1) := by decide +kernel
theorem dX5_delete_142 : decode cX5_delete 142 = .ok (.if_icmp .ge 33, 3) := by decide +kernel
theorem dX5_delete_145 : decode cX5_delete 145 = .ok (.aload_n 0, 1) := by decide +kernel
theorem dX5_delete_146 : decode cX5_delete 146 = .ok (.getfield 16, 3) := by decide +kernel
theorem dX5_delete_149 : decode cX5_delete 149 = .ok (.iconst 4, 1) := by decide +kernel
theorem dX5_delete_150 : decode cX5_delete 150 = .ok (.iload 5, 2) := by decide +kernel
theorem dX5_delete_152 : decode cX5_delete 152 = .ok (.imul, 1) := by decide +kernel
theorem dX5_delete_153 : decode cX5_delete 153 = .ok (.iload 7, 2) := by decide +kernel
theorem dX5_delete_155 : decode cX5_delete 155 = .ok (.iadd, 1) := by decide +kernel
theorem dX5_delete_156 : decode cX5_delete 156 = .ok (.aload_n 0, 1) := by decide +kernel
theorem dX5_delete_157 : decode cX5_delete 157 = .ok (.getfield 16, 3) := by decide +kernel
theorem dX5_delete_160 : decode cX5_delete 160 = .ok (.iconst 4, 1) := by decide +kernel
theorem dX5_delete_161 : decode cX5_delete 161 = .ok (.iload 6, 2) := by decide +kernel
theorem dX5_delete_163 : decode cX5_delete 163 = .ok (.imul, 1) := by decide +kernel
theorem dX5_delete_164 : decode cX5_delete 164 = .ok (.iload 7, 2) := by decide +kernel
theorem dX5_delete_166 : decode cX5_delete 166 = .ok (.iadd, 1) := by decide +kernel
theorem dX5_delete_167 : decode cX5_delete 167 = .ok (.iaload, 1) := by decide +kernel
theorem dX5_delete_168 : decode cX5_delete 168 = .ok (.iastore, 1) := by decide +kernel
theorem dX5_delete_169 : decode cX5_delete 169 = .ok (.iinc 7 1, 3) := by decide +kernel
theorem dX5_delete_172 : decode cX5_delete 172 = .ok (.goto (-33), 3) := by decide +kernel
theorem dX5_delete_175 : decode cX5_delete 175 = .ok (.iinc 5 1, 3) := by decide +kernel
theorem dX5_delete_178 : decode cX5_delete 178 = .ok (.iinc 6 1, 3) := by decide +kernel
theorem dX5_delete_181 : decode cX5_delete 181 = .ok (.goto (-78), 3) := by decide +kernel
theorem dX5_delete_184 : decode cX5_delete 184 = .ok (.aload_n 0, 1) := by decide +kernel
theorem dX5_delete_185 : decode cX5_delete 185 = .ok (.iload 5, 2) := by decide +kernel
theorem dX5_delete_187 : decode cX5_delete 187 = .ok (.putfield 82, 3) := by decide +kernel
theorem dX5_delete_190 : decode cX5_delete 190 = .ok (.aload_n 0, 1) := by decide +kernel
theorem dX5_delete_191 : decode cX5_delete 191 = .ok (.aload_n 0, 1) := by decide +kernel
theorem dX5_delete_192 : decode cX5_delete 192 = .ok (.iload 4, 2) := by decide +kernel
theorem dX5_delete_194 : decode cX5_delete 194 = .ok (.iconst 2, 1) := by decide +kernel
theorem dX5_delete_195 : decode cX5_delete 195 = .ok (.invokevirtual 143, 3) := by decide +kernel
theorem dX5_delete_198 : decode cX5_delete 198 = .ok (.putfield 71, 3) := by decide +kernel
theorem dX5_delete_201 : decode cX5_delete 201 = .ok (.aload_n 0, 1) := by decide +kernel
theorem dX5_delete_202 : decode cX5_delete 202 = .ok (.getfield 71, 3) := by decide +kernel
theorem dX5_delete_205 : decode cX5_delete 205 = .ok (.ifCond .le 7, 3) := by decide +kernel
theorem dX5_delete_208 : decode cX5_delete 208 = .ok (.iconst 0, 1) := by decide +kernel
theorem dX5_delete_209 : decode cX5_delete 209 = .ok (.goto 10, 3) := by decide +kernel
theorem dX5_delete_212 : decode cX5_delete 212 = .ok (.aload_n 0, 1) := by decide +kernel
theorem dX5_delete_213 : decode cX5_delete 213 = .ok (.getfield 130, 3) := by decide +kernel
theorem dX5_delete_216 : decode cX5_delete 216 = .ok (.iload 5, 2) := by decide +kernel
theorem dX5_delete_218 : decode cX5_delete 218 = .ok (.isub, 1) := by decide +kernel
theorem dX5_delete_219 : decode cX5_delete 219 = .ok (.ireturn, 1) := by decide +kernel
set_option maxRecDepth 20000 in
theorem ggX5_rename_X5_referred : GoodIn wsX5_rename wsX5_referred := goodIn_r _ [10, 11, 5, 12, 13, 14, 15, 16, 17, 18, 19, 20, 21, 22, 23, 24, 25, 26, 27, 28, 29, 30, 31, 32, 33, 34, 35, 36, 37, 38, 39, 40, 41, 42, 43, 44, 45] (by decide +kernel) (by decide +kernel)
set_option maxRecDepth 20000 in
theorem gX5_rename_X5_referred : GoodIn wsX5_rename (wsV RX5 146 RX5 yX5_referred wsX5_referred) := goodIn_app (goodIn_of _ (by decide +kernel)) ggX5_rename_X5_referred
theorem dX5_rename_0 : decode cX5_rename 0 = .ok (.iconst 0, 1) := by decide +kernel
theorem dX5_rename_1 : decode cX5_rename 1 = .ok (.istore_n 3, 1) := by decide +kernel
theorem dX5_rename_2 : decode cX5_rename 2 = .ok (.aload_n 0, 1) := by decide +kernel
theorem dX5_rename_3 : decode cX5_rename 3 = .ok (.getfield 16, 3) := by decide +kernel
theorem dX5_rename_6 : decode cX5_rename 6 = .ok (.iconst 4, 1) := by decide +kernel
theorem dX5_rename_7 : decode cX5_rename 7 = .ok (.iload_n 1, 1) := by decide +kernel
theorem dX5_rename_8 : decode cX5_rename 8 = .ok (.imul, 1) := by decide +kernel
theorem dX5_rename_9 : decode cX5_rename 9 = .ok (.iload_n 2, 1) := by decide +kernel
theorem dX5_rename_10 : decode cX5_rename 10 = .ok (.iastore, 1) := by decide +kernel
theorem dX5_rename_11 : decode cX5_rename 11 = .ok (.aload_n 0, 1) := by decide +kernel
theorem dX5_rename_12 : decode cX5_rename 12 = .ok (.getfield 106, 3) := by decide +kernel
theorem dX5_rename_15 : decode cX5_rename 15 = .ok (.iconst 1, 1) := by decide +kernel
theorem dX5_rename_16 : decode cX5_rename 16 = .ok (.isub, 1) := by decide +kernel
theorem dX5_rename_17 : decode cX5_rename 17 = .ok (.istore 4, 2) := by decide +kernel
theorem dX5_rename_19 : decode cX5_rename 19 = .ok (.iload 4, 2) := by decide +kernel
theorem dX5_rename_21 : decode cX5_rename 21 = .ok (.ifCond .lt 117, 3) := by decide +kernel
theorem dX5_rename_24 : decode cX5_rename 24 = .ok (.iconst 0, 1) := by decide +kernel
theorem dX5_rename_25 : decode cX5_rename 25 = .ok (.istore 5, 2) := by decide +kernel
theorem dX5_rename_27 : decode cX5_rename 27 = .ok (.iload 5, 2) := by decide +kernel
theorem dX5_rename_29 : decode cX5_rename 29 = .ok (.aload_n 0, 1) := by decide +kernel
theorem dX5_rename_30 : decode cX5_rename 30 = .ok (.getfield 82, 3) := by decide +kernel
theorem dX5_rename_33 : decode cX5_rename 33 = .ok (.if_icmp .ge 99, 3) := by decide +kernel
theorem dX5_rename_36 : decode cX5_rename 36 = .ok (.aload_n 0, 1) := by decide +kernel
theorem dX5_rename_37 : decode cX5_rename 37 = .ok (.iload 4, 2) := by decide +kernel
theorem dX5_rename_39 : decode cX5_rename 39 = .ok (.iload 5, 2) := by decide +kernel
theorem dX5_rename_41 : decode cX5_rename 41 = .ok (.iload_n 1, 1) := by decide +kernel
theorem dX5_rename_42 : decode cX5_rename 42 = .ok (.invokevirtual 146, 3) := by decide +kernel
theorem dX5_rename_45 : decode cX5_rename 45 = .ok (.ifCond .eq 81, 3) := by decide +kernel
theorem dX5_rename_48 : decode cX5_rename 48 = .ok (.aload_n 0, 1) := by decide +kernel
theorem dX5_rename_49 : decode cX5_rename 49 = .ok (.getfield 38, 3) := by decide +kernel
theorem dX5_rename_52 : decode cX5_rename 52 = .ok (.iload 4, 2) := by decide +kernel
theorem dX5_rename_54 : decode cX5_rename 54 = .ok (.iaload, 1) := by decide +kernel
theorem dX5_rename_55 : decode cX5_rename 55 = .ok (.ifCond .ne 11, 3) := by decide +kernel
theorem dX5_rename_58 : decode cX5_rename 58 = .ok (.bipush 100, 2) := by decide +kernel
theorem dX5_rename_60 : decode cX5_rename 60 = .ok (.iload 4, 2) := by decide +kernel
theorem dX5_rename_62 : decode cX5_rename 62 = .ok (.iadd, 1) := by decide +kernel
theorem dX5_rename_63 : decode cX5_rename 63 = .ok (.goto 4, 3) := by decide +kernel
theorem dX5_rename_66 : decode cX5_rename 66 = .ok (.iload_n 3, 1) := by decide +kernel
theorem dX5_rename_67 : decode cX5_rename 67 = .ok (.istore_n 3, 1) := by decide +kernel
theorem dX5_rename_68 : decode cX5_rename 68 = .ok (.iconst 4, 1) := by decide +kernel
theorem dX5_rename_69 : decode cX5_rename 69 = .ok (.iload 5, 2) := by decide +kernel
theorem dX5_rename_71 : decode cX5_rename 71 = .ok (.imul, 1) := by decide +kernel
theorem dX5_rename_72 : decode cX5_rename 72 = .ok (.aload_n 0, 1) := by decide +kernel
theorem dX5_rename_73 : decode cX5_rename 73 = .ok (.getfield 32, 3) := by decide +kernel
theorem dX5_rename_76 : decode cX5_rename 76 = .ok (.iload 4, 2) := by decide +kernel
theorem dX5_rename_78 : decode cX5_rename 78 = .ok (.iaload, 1) := by decide +kernel
theorem dX5_rename_79 : decode cX5_rename 79 = .ok (.iadd, 1) := by decide +kernel
theorem dX5_rename_80 : decode cX5_rename 80 = .ok (.istore 6, 2) := by decide +kernel
theorem dX5_rename_82 : decode cX5_rename 82 = .ok (.aload_n 0, 1) := by decide +kernel
theorem dX5_rename_83 : decode cX5_rename 83 = .ok (.getfield 16, 3) := by decide +kernel
theorem dX5_rename_86 : decode cX5_rename 86 = .ok (.iload 6, 2) := by decide +kernel
theorem dX5_rename_88 : decode cX5_rename 88 = .ok (.aload_n 0, 1) := by decide +kernel
theorem dX5_rename_89 : decode cX5_rename 89 = .ok (.getfield 38, 3) := by decide +kernel
theorem dX5_rename_92 : decode cX5_rename 92 = .ok (.iload 4, 2) := by decide +kernel
theorem dX5_rename_94 : decode cX5_rename 94 = .ok (.iaload, 1) := by decide +kernel
theorem dX5_rename_95 : decode cX5_rename 95 = .ok (.iconst 1, 1) := by decide +kernel
theorem dX5_rename_96 : decode cX5_rename 96 = .ok (.if_icmp .ne 7, 3) := by decide +kernel
theorem dX5_rename_99 : decode cX5_rename 99 = .ok (.iload_n 2, 1) := by decide +kernel
theorem dX5_rename_100 : decode cX5_rename 100 = .ok (.goto 25, 3) := by decide +kernel
theorem dX5_rename_103 : decode cX5_rename 103 = .ok (.aload_n 0, 1) := by decide +kernel
theorem dX5_rename_104 : decode cX5_rename 104 = .ok (.getfield 38, 3) := by decide +kernel
theorem dX5_rename_107 : decode cX5_rename 107 = .ok (.iload 4, 2) := by decide +kernel
theorem dX5_rename_109 : decode cX5_rename 109 = .ok (.iaload, 1) := by decide +kernel
theorem dX5_rename_110 : decode cX5_rename 110 = .ok (.iconst 2, 1) := by decide +kernel
theorem dX5_rename_111 : decode cX5_rename 111 = .ok (.if_icmp .ne 7, 3) := by decide +kernel
theorem dX5_rename_114 : decode cX5_rename 114 = .ok (.iconst 0, 1) := by decide +kernel
theorem dX5_rename_115 : decode cX5_rename 115 = .ok (.goto 10, 3) := by decide +kernel
theorem dX5_rename_118 : decode cX5_rename 118 = .ok (.aload_n 0, 1) := by decide +kernel
theorem dX5_rename_119 : decode cX5_rename 119 = .ok (.getfield 16, 3) := by decide +kernel
theorem dX5_rename_122 : decode cX5_rename 122 = .ok (.iload 6, 2) := by decide +kernel
theorem dX5_rename_124 : decode cX5_rename 124 = .ok (.iaload, 1) := by decide +kernel
theorem dX5_rename_125 : decode cX5_rename 125 = .ok (.iastore, 1) := by decide +kernel
theorem dX5_rename_126 : decode cX5_rename 126 = .ok (.iinc 5 1, 3) := by decide +kernel
theorem dX5_rename_129 : decode cX5_rename 129 = .ok (.goto (-102), 3) := by decide +kernel
theorem dX5_rename_132 : decode cX5_rename 132 = .ok (.iinc 4 (-1), 3) := by decide +kernel
theorem dX5_rename_135 : decode cX5_rename 135 = .ok (.goto (-116), 3) := by decide +kernel
theorem dX5_rename_138 : decode cX5_rename 138 = .ok (.iload_n 3, 1) := by decide +kernel
theorem dX5_rename_139 : decode cX5_rename 139 = .ok (.ireturn, 1) := by decide +kernel
set_option maxRecDepth 20000 in
theorem ggX5_update_X5_isColumn : GoodIn wsX5_update wsX5_isColumn := goodIn_r _ [7, 8, 9, 10, 11, 6, 12, 13, 82, 83, 84, 85, 86, 87, 88, 89, 90, 91, 92, 93, 94, 95, 96, 97, 98, 99, 100, 101, 102, 103, 104, 105, 106, 107, 108, 109, 110, 111, 112] (by decide +kernel) (by decide +kernel)
set_option maxRecDepth 20000 in
theorem gX5_update_X5_isColumn : GoodIn wsX5_update (wsV RX5 118 RX5 yX5_isColumn wsX5_isColumn) := goodIn_app (goodIn_of _ (by decide +kernel)) ggX5_update_X5_isColumn
set_option maxRecDepth 20000 in
theorem ggX5_update_X5_find : GoodIn wsX5_update wsX5_find := goodIn_r _ [17, 18, 19, 2, 82, 83, 84, 85, 86, 87, 88, 89, 90, 91, 92, 93, 94, 95, 96, 97, 98, 99, 100, 101, 102, 103, 104, 105, 106, 107, 108, 109, 110, 111, 112] (by decide +kernel) (by decide +kernel)
set_option maxRecDepth 20000 in
theorem gX5_update_X5_find : GoodIn wsX5_update (wsV RX5 85 RX5 yX5_find wsX5_find) := goodIn_app (goodIn_of _ (by decide +kernel)) ggX5_update_X5_find
set_option maxRecDepth 20000 in
theorem ggX5_update_X5_remember : GoodIn wsX5_update wsX5_remember := goodIn_r _ [23, 18, 24, 25, 19, 26, 27, 2, 82, 83, 84, 85, 86, 87, 88, 89, 90, 91, 92, 93, 94, 95, 96, 97, 98, 99, 100, 101, 102, 103, 104, 105, 106, 107, 108, 109, 110, 111, 112] (by decide +kernel) (by decide +kernel)
set_option maxRecDepth 20000 in
theorem gX5_update_X5_remember : GoodIn wsX5_update (wsV RX5 140 RX5 yX5_remember wsX5_remember) := goodIn_app (goodIn_of _ (by decide +kernel)) ggX5_update_X5_remember
set_option maxRecDepth 20000 in
theorem ggX5_update_X5_rename : GoodIn wsX5_update wsX5_rename := goodIn_r _ [31, 2, 32, 18, 33, 34, 35, 36, 37, 6, 38, 27, 25, 39, 40, 82, 83, 84, 85, 86, 87, 88, 89, 90, 91, 92, 93, 94, 95, 96, 97, 98, 99, 100, 101, 102, 103, 104, 105, 106, 107, 108, 109, 110, 111, 112] (by decide +kernel) (by decide +kernel)
set_option maxRecDepth 20000 in
theorem gX5_update_X5_rename : GoodIn wsX5_update (wsV RX5 156 RX5 yX5_rename wsX5_rename) := goodIn_app (goodIn_of _ (by decide +kernel)) ggX5_update_X5_rename
set_option maxRecDepth 20000 in
theorem ggX5_update_X5_settle : GoodIn wsX5_update wsX5_settle := goodIn_r _ [44, 45, 46, 47, 48, 6, 49, 13, 50, 51, 52, 32, 53, 54, 55, 56, 57, 18, 19, 2, 58, 59, 60, 61, 34, 39, 40, 14, 15, 16, 17, 62, 63, 64, 65, 66, 67, 68, 69, 70, 71, 72, 73, 74, 75, 76, 77, 78, 79, 80, 81, 24, 25, 27, 82, 83, 84, 85, 86, 87, 88, 89, 90, 91, 92, 93, 94, 95, 96, 97, 98, 99, 100, 101, 102, 103, 104, 105, 106, 107, 108, 109, 110, 111, 112] (by decide +kernel) (by decide +kernel)
set_option maxRecDepth 20000 in
theorem gX5_update_X5_settle : GoodIn wsX5_update (wsV RX5 143 RX5 yX5_settle wsX5_settle) := goodIn_app (goodIn_of _ (by decide +kernel)) ggX5_update_X5_settle
theorem dX5_update_0 : decode cX5_update 0 = .ok (.aload_n 0, 1) := by decide +kernel
theorem dX5_update_1 : decode cX5_update 1 = .ok (.aload_n 0, 1) := by decide +kernel
theorem dX5_update_2 : decode cX5_update 2 = .ok (.iload_n 1, 1) := by decide +kernel
theorem dX5_update_3 : decode cX5_update 3 = .ok (.iload_n 3, 1) := by decide +kernel
theorem dX5_update_4 : decode cX5_update 4 = .ok (.invokevirtual 118, 3) := by decide +kernel
theorem dX5_update_7 : decode cX5_update 7 = .ok (.ifCond .eq 12, 3) := by decide +kernel
theorem dX5_update_10 : decode cX5_update 10 = .ok (.iload_n 3, 1) := by decide +kernel
theorem dX5_update_11 : decode cX5_update 11 = .ok (.ifCond .ne 12, 3) := by decide +kernel
theorem dX5_update_14 : decode cX5_update 14 = .ok (.iload 4, 2) := by decide +kernel
theorem dX5_update_16 : decode cX5_update 16 = .ok (.ifCond .ne 7, 3) := by decide +kernel
theorem dX5_update_19 : decode cX5_update 19 = .ok (.iconst 1, 1) := by decide +kernel
theorem dX5_update_20 : decode cX5_update 20 = .ok (.goto 4, 3) := by decide +kernel
theorem dX5_update_23 : decode cX5_update 23 = .ok (.iconst 0, 1) := by decide +kernel
theorem dX5_update_24 : decode cX5_update 24 = .ok (.putfield 71, 3) := by decide +kernel
theorem dX5_update_27 : decode cX5_update 27 = .ok (.aload_n 0, 1) := by decide +kernel
theorem dX5_update_28 : decode cX5_update 28 = .ok (.getfield 71, 3) := by decide +kernel
theorem dX5_update_31 : decode cX5_update 31 = .ok (.ifCond .le 5, 3) := by decide +kernel
theorem dX5_update_34 : decode cX5_update 34 = .ok (.iconst 0, 1) := by decide +kernel
theorem dX5_update_35 : decode cX5_update 35 = .ok (.ireturn, 1) := by decide +kernel
theorem dX5_update_36 : decode cX5_update 36 = .ok (.aload_n 0, 1) := by decide +kernel
theorem dX5_update_37 : decode cX5_update 37 = .ok (.iload_n 1, 1) := by decide +kernel
theorem dX5_update_38 : decode cX5_update 38 = .ok (.iload_n 2, 1) := by decide +kernel
theorem dX5_update_39 : decode cX5_update 39 = .ok (.invokevirtual 85, 3) := by decide +kernel
theorem dX5_update_42 : decode cX5_update 42 = .ok (.istore 5, 2) := by decide +kernel
theorem dX5_update_44 : decode cX5_update 44 = .ok (.aload_n 0, 1) := by decide +kernel
theorem dX5_update_45 : decode cX5_update 45 = .ok (.iload 5, 2) := by decide +kernel
theorem dX5_update_47 : decode cX5_update 47 = .ok (.ifCond .lt 7, 3) := by decide +kernel
theorem dX5_update_50 : decode cX5_update 50 = .ok (.iload_n 2, 1) := by decide +kernel
theorem dX5_update_51 : decode cX5_update 51 = .ok (.ifCond .ne 7, 3) := by decide +kernel
theorem dX5_update_54 : decode cX5_update 54 = .ok (.iconst 2, 1) := by decide +kernel
theorem dX5_update_55 : decode cX5_update 55 = .ok (.goto 4, 3) := by decide +kernel
theorem dX5_update_58 : decode cX5_update 58 = .ok (.iconst 0, 1) := by decide +kernel
theorem dX5_update_59 : decode cX5_update 59 = .ok (.putfield 71, 3) := by decide +kernel
theorem dX5_update_62 : decode cX5_update 62 = .ok (.aload_n 0, 1) := by decide +kernel
theorem dX5_update_63 : decode cX5_update 63 = .ok (.getfield 71, 3) := by decide +kernel
theorem dX5_update_66 : decode cX5_update 66 = .ok (.ifCond .le 5, 3) := by decide +kernel
theorem dX5_update_69 : decode cX5_update 69 = .ok (.iconst 0, 1) := by decide +kernel
theorem dX5_update_70 : decode cX5_update 70 = .ok (.ireturn, 1) := by decide +kernel
theorem dX5_update_71 : decode cX5_update 71 = .ok (.aload_n 0, 1) := by decide +kernel
theorem dX5_update_72 : decode cX5_update 72 = .ok (.getfield 16, 3) := by decide +kernel
theorem dX5_update_75 : decode cX5_update 75 = .ok (.iconst 4, 1) := by decide +kernel
theorem dX5_update_76 : decode cX5_update 76 = .ok (.iload 5, 2) := by decide +kernel
theorem dX5_update_78 : decode cX5_update 78 = .ok (.imul, 1) := by decide +kernel
theorem dX5_update_79 : decode cX5_update 79 = .ok (.iload_n 3, 1) := by decide +kernel
theorem dX5_update_80 : decode cX5_update 80 = .ok (.iadd, 1) := by decide +kernel
theorem dX5_update_81 : decode cX5_update 81 = .ok (.iaload, 1) := by decide +kernel
theorem dX5_update_82 : decode cX5_update 82 = .ok (.istore 6, 2) := by decide +kernel
theorem dX5_update_84 : decode cX5_update 84 = .ok (.iload 6, 2) := by decide +kernel
theorem dX5_update_86 : decode cX5_update 86 = .ok (.iload 4, 2) := by decide +kernel
theorem dX5_update_88 : decode cX5_update 88 = .ok (.if_icmp .ne 6, 3) := by decide +kernel
theorem dX5_update_91 : decode cX5_update 91 = .ok (.iload 6, 2) := by decide +kernel
theorem dX5_update_93 : decode cX5_update 93 = .ok (.ireturn, 1) := by decide +kernel
theorem dX5_update_94 : decode cX5_update 94 = .ok (.aload_n 0, 1) := by decide +kernel
theorem dX5_update_95 : decode cX5_update 95 = .ok (.invokevirtual 140, 3) := by decide +kernel
theorem dX5_update_98 : decode cX5_update 98 = .ok (.iconst 0, 1) := by decide +kernel
theorem dX5_update_99 : decode cX5_update 99 = .ok (.istore 7, 2) := by decide +kernel
theorem dX5_update_101 : decode cX5_update 101 = .ok (.iload_n 3, 1) := by decide +kernel
theorem dX5_update_102 : decode cX5_update 102 = .ok (.ifCond .ne 16, 3) := by decide +kernel
theorem dX5_update_105 : decode cX5_update 105 = .ok (.aload_n 0, 1) := by decide +kernel
theorem dX5_update_106 : decode cX5_update 106 = .ok (.iload 5, 2) := by decide +kernel
theorem dX5_update_108 : decode cX5_update 108 = .ok (.iload 4, 2) := by decide +kernel
theorem dX5_update_110 : decode cX5_update 110 = .ok (.invokevirtual 156, 3) := by decide +kernel
theorem dX5_update_113 : decode cX5_update 113 = .ok (.istore 7, 2) := by decide +kernel
theorem dX5_update_115 : decode cX5_update 115 = .ok (.goto 16, 3) := by decide +kernel
theorem dX5_update_118 : decode cX5_update 118 = .ok (.aload_n 0, 1) := by decide +kernel
theorem dX5_update_119 : decode cX5_update 119 = .ok (.getfield 16, 3) := by decide +kernel
theorem dX5_update_122 : decode cX5_update 122 = .ok (.iconst 4, 1) := by decide +kernel
theorem dX5_update_123 : decode cX5_update 123 = .ok (.iload 5, 2) := by decide +kernel
theorem dX5_update_125 : decode cX5_update 125 = .ok (.imul, 1) := by decide +kernel
theorem dX5_update_126 : decode cX5_update 126 = .ok (.iload_n 3, 1) := by decide +kernel
theorem dX5_update_127 : decode cX5_update 127 = .ok (.iadd, 1) := by decide +kernel
theorem dX5_update_128 : decode cX5_update 128 = .ok (.iload 4, 2) := by decide +kernel
theorem dX5_update_130 : decode cX5_update 130 = .ok (.iastore, 1) := by decide +kernel
theorem dX5_update_131 : decode cX5_update 131 = .ok (.aload_n 0, 1) := by decide +kernel
theorem dX5_update_132 : decode cX5_update 132 = .ok (.aload_n 0, 1) := by decide +kernel
theorem dX5_update_133 : decode cX5_update 133 = .ok (.iload 7, 2) := by decide +kernel
theorem dX5_update_135 : decode cX5_update 135 = .ok (.iconst 3, 1) := by decide +kernel
theorem dX5_update_136 : decode cX5_update 136 = .ok (.invokevirtual 143, 3) := by decide +kernel
theorem dX5_update_139 : decode cX5_update 139 = .ok (.putfield 71, 3) := by decide +kernel
theorem dX5_update_142 : decode cX5_update 142 = .ok (.aload_n 0, 1) := by decide +kernel
theorem dX5_update_143 : decode cX5_update 143 = .ok (.getfield 71, 3) := by decide +kernel
theorem dX5_update_146 : decode cX5_update 146 = .ok (.ifCond .le 7, 3) := by decide +kernel
theorem dX5_update_149 : decode cX5_update 149 = .ok (.iconst 0, 1) := by decide +kernel
theorem dX5_update_150 : decode cX5_update 150 = .ok (.goto 5, 3) := by decide +kernel
theorem dX5_update_153 : decode cX5_update 153 = .ok (.iload 6, 2) := by decide +kernel
theorem dX5_update_155 : decode cX5_update 155 = .ok (.ireturn, 1) := by decide +kernel
set_option maxRecDepth 20000 in
theorem ggX5_shift_X5_isColumn : GoodIn wsX5_shift wsX5_isColumn := goodIn_r _ [9, 10, 11, 12, 13, 8, 14, 15, 73, 74, 75, 76, 77, 78, 79, 80, 81, 82, 83, 84, 85, 86, 87, 88, 89, 90, 91, 92, 93, 94, 95, 96, 97, 98, 99, 100, 101, 102, 103] (by decide +kernel) (by decide +kernel)
set_option maxRecDepth 20000 in
theorem gX5_shift_X5_isColumn : GoodIn wsX5_shift (wsV RX5 118 RX5 yX5_isColumn wsX5_isColumn) := goodIn_app (goodIn_of _ (by decide +kernel)) ggX5_shift_X5_isColumn
set_option maxRecDepth 20000 in
theorem ggX5_shift_X5_remember : GoodIn wsX5_shift wsX5_remember := goodIn_r _ [19, 2, 20, 21, 3, 22, 23, 4, 73, 74, 75, 76, 77, 78, 79, 80, 81, 82, 83, 84, 85, 86, 87, 88, 89, 90, 91, 92, 93, 94, 95, 96, 97, 98, 99, 100, 101, 102, 103] (by decide +kernel) (by decide +kernel)
set_option maxRecDepth 20000 in
theorem gX5_shift_X5_remember : GoodIn wsX5_shift (wsV RX5 140 RX5 yX5_remember wsX5_remember) := goodIn_app (goodIn_of _ (by decide +kernel)) ggX5_shift_X5_remember
set_option maxRecDepth 20000 in
theorem ggX5_shift_X5_settle : GoodIn wsX5_shift wsX5_settle := goodIn_r _ [27, 28, 29, 30, 31, 8, 32, 15, 33, 34, 35, 36, 37, 38, 39, 40, 41, 2, 3, 4, 42, 43, 44, 45, 46, 47, 48, 49, 50, 51, 52, 53, 54, 55, 56, 57, 58, 59, 60, 61, 62, 63, 64, 65, 66, 67, 68, 69, 70, 71, 72, 20, 21, 23, 73, 74, 75, 76, 77, 78, 79, 80, 81, 82, 83, 84, 85, 86, 87, 88, 89, 90, 91, 92, 93, 94, 95, 96, 97, 98, 99, 100, 101, 102, 103] (by decide +kernel) (by decide +kernel)
set_option maxRecDepth 20000 in
theorem gX5_shift_X5_settle : GoodIn wsX5_shift (wsV RX5 143 RX5 yX5_settle wsX5_settle) := goodIn_app (goodIn_of _ (by decide +kernel)) ggX5_shift_X5_settle
theorem dX5_shift_0 : decode cX5_shift 0 = .ok (.aload_n 0, 1) := by decide +kernel
theorem dX5_shift_1 : decode cX5_shift 1 = .ok (.aload_n 0, 1) := by decide +kernel
theorem dX5_shift_2 : decode cX5_shift 2 = .ok (.iload_n 1, 1) := by decide +kernel
theorem dX5_shift_3 : decode cX5_shift 3 = .ok (.iload_n 2, 1) := by decide +kernel
theorem dX5_shift_4 : decode cX5_shift 4 = .ok (.invokevirtual 118, 3) := by decide +kernel
theorem dX5_shift_7 : decode cX5_shift 7 = .ok (.ifCond .eq 11, 3) := by decide +kernel
theorem dX5_shift_10 : decode cX5_shift 10 = .ok (.iload_n 2, 1) := by decide +kernel
theorem dX5_shift_11 : decode cX5_shift 11 = .ok (.ifCond .le 7, 3) := by decide +kernel
theorem dX5_shift_14 : decode cX5_shift 14 = .ok (.iconst 0, 1) := by decide +kernel
theorem dX5_shift_15 : decode cX5_shift 15 = .ok (.goto 4, 3) := by decide +kernel
theorem dX5_shift_18 : decode cX5_shift 18 = .ok (.iconst 1, 1) := by decide +kernel
theorem dX5_shift_19 : decode cX5_shift 19 = .ok (.putfield 71, 3) := by decide +kernel
theorem dX5_shift_22 : decode cX5_shift 22 = .ok (.aload_n 0, 1) := by decide +kernel
theorem dX5_shift_23 : decode cX5_shift 23 = .ok (.getfield 71, 3) := by decide +kernel
theorem dX5_shift_26 : decode cX5_shift 26 = .ok (.ifCond .le 5, 3) := by decide +kernel
theorem dX5_shift_29 : decode cX5_shift 29 = .ok (.iconst 0, 1) := by decide +kernel
theorem dX5_shift_30 : decode cX5_shift 30 = .ok (.ireturn, 1) := by decide +kernel
theorem dX5_shift_31 : decode cX5_shift 31 = .ok (.aload_n 0, 1) := by decide +kernel
theorem dX5_shift_32 : decode cX5_shift 32 = .ok (.invokevirtual 140, 3) := by decide +kernel
theorem dX5_shift_35 : decode cX5_shift 35 = .ok (.iconst 0, 1) := by decide +kernel
theorem dX5_shift_36 : decode cX5_shift 36 = .ok (.istore 4, 2) := by decide +kernel
theorem dX5_shift_38 : decode cX5_shift 38 = .ok (.iconst 0, 1) := by decide +kernel
theorem dX5_shift_39 : decode cX5_shift 39 = .ok (.istore 5, 2) := by decide +kernel
theorem dX5_shift_41 : decode cX5_shift 41 = .ok (.iload 5, 2) := by decide +kernel
theorem dX5_shift_43 : decode cX5_shift 43 = .ok (.aload_n 0, 1) := by decide +kernel
theorem dX5_shift_44 : decode cX5_shift 44 = .ok (.getfield 82, 3) := by decide +kernel
theorem dX5_shift_47 : decode cX5_shift 47 = .ok (.if_icmp .ge 38, 3) := by decide +kernel
theorem dX5_shift_50 : decode cX5_shift 50 = .ok (.aload_n 0, 1) := by decide +kernel
theorem dX5_shift_51 : decode cX5_shift 51 = .ok (.getfield 13, 3) := by decide +kernel
theorem dX5_shift_54 : decode cX5_shift 54 = .ok (.iload 5, 2) := by decide +kernel
theorem dX5_shift_56 : decode cX5_shift 56 = .ok (.iaload, 1) := by decide +kernel
theorem dX5_shift_57 : decode cX5_shift 57 = .ok (.iload_n 1, 1) := by decide +kernel
theorem dX5_shift_58 : decode cX5_shift 58 = .ok (.if_icmp .ne 21, 3) := by decide +kernel
theorem dX5_shift_61 : decode cX5_shift 61 = .ok (.aload_n 0, 1) := by decide +kernel
theorem dX5_shift_62 : decode cX5_shift 62 = .ok (.getfield 16, 3) := by decide +kernel
theorem dX5_shift_65 : decode cX5_shift 65 = .ok (.iconst 4, 1) := by decide +kernel
theorem dX5_shift_66 : decode cX5_shift 66 = .ok (.iload 5, 2) := by decide +kernel
theorem dX5_shift_68 : decode cX5_shift 68 = .ok (.imul, 1) := by decide +kernel
theorem dX5_shift_69 : decode cX5_shift 69 = .ok (.iload_n 2, 1) := by decide +kernel
theorem dX5_shift_70 : decode cX5_shift 70 = .ok (.iadd, 1) := by decide +kernel
theorem dX5_shift_71 : decode cX5_shift 71 = .ok (.dup2, 1) := by decide +kernel
theorem dX5_shift_72 : decode cX5_shift 72 = .ok (.iaload, 1) := by decide +kernel
theorem dX5_shift_73 : decode cX5_shift 73 = .ok (.iload_n 3, 1) := by decide +kernel
theorem dX5_shift_74 : decode cX5_shift 74 = .ok (.iadd, 1) := by decide +kernel
theorem dX5_shift_75 : decode cX5_shift 75 = .ok (.iastore, 1) := by decide +kernel
theorem dX5_shift_76 : decode cX5_shift 76 = .ok (.iinc 4 1, 3) := by decide +kernel
theorem dX5_shift_79 : decode cX5_shift 79 = .ok (.iinc 5 1, 3) := by decide +kernel
theorem dX5_shift_82 : decode cX5_shift 82 = .ok (.goto (-41), 3) := by decide +kernel
theorem dX5_shift_85 : decode cX5_shift 85 = .ok (.aload_n 0, 1) := by decide +kernel
theorem dX5_shift_86 : decode cX5_shift 86 = .ok (.aload_n 0, 1) := by decide +kernel
theorem dX5_shift_87 : decode cX5_shift 87 = .ok (.iconst 0, 1) := by decide +kernel
theorem dX5_shift_88 : decode cX5_shift 88 = .ok (.iconst 2, 1) := by decide +kernel
theorem dX5_shift_89 : decode cX5_shift 89 = .ok (.invokevirtual 143, 3) := by decide +kernel
theorem dX5_shift_92 : decode cX5_shift 92 = .ok (.putfield 71, 3) := by decide +kernel
theorem dX5_shift_95 : decode cX5_shift 95 = .ok (.aload_n 0, 1) := by decide +kernel
theorem dX5_shift_96 : decode cX5_shift 96 = .ok (.getfield 71, 3) := by decide +kernel
theorem dX5_shift_99 : decode cX5_shift 99 = .ok (.ifCond .le 7, 3) := by decide +kernel
theorem dX5_shift_102 : decode cX5_shift 102 = .ok (.iconst 0, 1) := by decide +kernel
theorem dX5_shift_103 : decode cX5_shift 103 = .ok (.goto 5, 3) := by decide +kernel
theorem dX5_shift_106 : decode cX5_shift 106 = .ok (.iload 4, 2) := by decide +kernel
theorem dX5_shift_108 : decode cX5_shift 108 = .ok (.ireturn, 1) := by decide +kernel
theorem dX5_keep_0 : decode cX5_keep 0 = .ok (.aload_n 0, 1) := by decide +kernel
theorem dX5_keep_1 : decode cX5_keep 1 = .ok (.aload_n 0, 1) := by decide +kernel
theorem dX5_keep_2 : decode cX5_keep 2 = .ok (.getfield 159, 3) := by decide +kernel
theorem dX5_keep_5 : decode cX5_keep 5 = .ok (.iconst 4, 1) := by decide +kernel
theorem dX5_keep_6 : decode cX5_keep 6 = .ok (.if_icmp .ne 7, 3) := by decide +kernel
theorem dX5_keep_9 : decode cX5_keep 9 = .ok (.iconst 1, 1) := by decide +kernel
theorem dX5_keep_10 : decode cX5_keep 10 = .ok (.goto 4, 3) := by decide +kernel
theorem dX5_keep_13 : decode cX5_keep 13 = .ok (.iconst 0, 1) := by decide +kernel
theorem dX5_keep_14 : decode cX5_keep 14 = .ok (.putfield 71, 3) := by decide +kernel
theorem dX5_keep_17 : decode cX5_keep 17 = .ok (.aload_n 0, 1) := by decide +kernel
theorem dX5_keep_18 : decode cX5_keep 18 = .ok (.getfield 71, 3) := by decide +kernel
theorem dX5_keep_21 : decode cX5_keep 21 = .ok (.ifCond .le 5, 3) := by decide +kernel
theorem dX5_keep_24 : decode cX5_keep 24 = .ok (.iconst 0, 1) := by decide +kernel
theorem dX5_keep_25 : decode cX5_keep 25 = .ok (.ireturn, 1) := by decide +kernel
theorem dX5_keep_26 : decode cX5_keep 26 = .ok (.aload_n 0, 1) := by decide +kernel
theorem dX5_keep_27 : decode cX5_keep 27 = .ok (.getfield 62, 3) := by decide +kernel
theorem dX5_keep_30 : decode cX5_keep 30 = .ok (.aload_n 0, 1) := by decide +kernel
theorem dX5_keep_31 : decode cX5_keep 31 = .ok (.getfield 159, 3) := by decide +kernel
theorem dX5_keep_34 : decode cX5_keep 34 = .ok (.aload_n 0, 1) := by decide +kernel
theorem dX5_keep_35 : decode cX5_keep 35 = .ok (.getfield 82, 3) := by decide +kernel
theorem dX5_keep_38 : decode cX5_keep 38 = .ok (.iastore, 1) := by decide +kernel
theorem dX5_keep_39 : decode cX5_keep 39 = .ok (.iconst 0, 1) := by decide +kernel
theorem dX5_keep_40 : decode cX5_keep 40 = .ok (.istore_n 1, 1) := by decide +kernel
theorem dX5_keep_41 : decode cX5_keep 41 = .ok (.iload_n 1, 1) := by decide +kernel
theorem dX5_keep_42 : decode cX5_keep 42 = .ok (.aload_n 0, 1) := by decide +kernel
theorem dX5_keep_43 : decode cX5_keep 43 = .ok (.getfield 82, 3) := by decide +kernel
theorem dX5_keep_46 : decode cX5_keep 46 = .ok (.if_icmp .ge 29, 3) := by decide +kernel
theorem dX5_keep_49 : decode cX5_keep 49 = .ok (.aload_n 0, 1) := by decide +kernel
theorem dX5_keep_50 : decode cX5_keep 50 = .ok (.getfield 65, 3) := by decide +kernel
theorem dX5_keep_53 : decode cX5_keep 53 = .ok (.bipush 24, 2) := by decide +kernel
theorem dX5_keep_55 : decode cX5_keep 55 = .ok (.aload_n 0, 1) := by decide +kernel
theorem dX5_keep_56 : decode cX5_keep 56 = .ok (.getfield 159, 3) := by decide +kernel
theorem dX5_keep_59 : decode cX5_keep 59 = .ok (.imul, 1) := by decide +kernel
theorem dX5_keep_60 : decode cX5_keep 60 = .ok (.iload_n 1, 1) := by decide +kernel
theorem dX5_keep_61 : decode cX5_keep 61 = .ok (.iadd, 1) := by decide +kernel
theorem dX5_keep_62 : decode cX5_keep 62 = .ok (.aload_n 0, 1) := by decide +kernel
theorem dX5_keep_63 : decode cX5_keep 63 = .ok (.getfield 13, 3) := by decide +kernel
theorem dX5_keep_66 : decode cX5_keep 66 = .ok (.iload_n 1, 1) := by decide +kernel
theorem dX5_keep_67 : decode cX5_keep 67 = .ok (.iaload, 1) := by decide +kernel
theorem dX5_keep_68 : decode cX5_keep 68 = .ok (.iastore, 1) := by decide +kernel
theorem dX5_keep_69 : decode cX5_keep 69 = .ok (.iinc 1 1, 3) := by decide +kernel
theorem dX5_keep_72 : decode cX5_keep 72 = .ok (.goto (-31), 3) := by decide +kernel
theorem dX5_keep_75 : decode cX5_keep 75 = .ok (.iconst 0, 1) := by decide +kernel
theorem dX5_keep_76 : decode cX5_keep 76 = .ok (.istore_n 1, 1) := by decide +kernel
theorem dX5_keep_77 : decode cX5_keep 77 = .ok (.iload_n 1, 1) := by decide +kernel
theorem dX5_keep_78 : decode cX5_keep 78 = .ok (.iconst 4, 1) := by decide +kernel
theorem dX5_keep_79 : decode cX5_keep 79 = .ok (.aload_n 0, 1) := by decide +kernel
theorem dX5_keep_80 : decode cX5_keep 80 = .ok (.getfield 82, 3) := by decide +kernel
theorem dX5_keep_83 : decode cX5_keep 83 = .ok (.imul, 1) := by decide +kernel
theorem dX5_keep_84 : decode cX5_keep 84 = .ok (.if_icmp .ge 29, 3) := by decide +kernel
theorem dX5_keep_87 : decode cX5_keep 87 = .ok (.aload_n 0, 1) := by decide +kernel
theorem dX5_keep_88 : decode cX5_keep 88 = .ok (.getfield 68, 3) := by decide +kernel
theorem dX5_keep_91 : decode cX5_keep 91 = .ok (.bipush 96, 2) := by decide +kernel
theorem dX5_keep_93 : decode cX5_keep 93 = .ok (.aload_n 0, 1) := by decide +kernel
theorem dX5_keep_94 : decode cX5_keep 94 = .ok (.getfield 159, 3) := by decide +kernel
theorem dX5_keep_97 : decode cX5_keep 97 = .ok (.imul, 1) := by decide +kernel
theorem dX5_keep_98 : decode cX5_keep 98 = .ok (.iload_n 1, 1) := by decide +kernel
theorem dX5_keep_99 : decode cX5_keep 99 = .ok (.iadd, 1) := by decide +kernel
theorem dX5_keep_100 : decode cX5_keep 100 = .ok (.aload_n 0, 1) := by decide +kernel
theorem dX5_keep_101 : decode cX5_keep 101 = .ok (.getfield 16, 3) := by decide +kernel
theorem dX5_keep_104 : decode cX5_keep 104 = .ok (.iload_n 1, 1) := by decide +kernel
theorem dX5_keep_105 : decode cX5_keep 105 = .ok (.iaload, 1) := by decide +kernel
theorem dX5_keep_106 : decode cX5_keep 106 = .ok (.iastore, 1) := by decide +kernel
theorem dX5_keep_107 : decode cX5_keep 107 = .ok (.iinc 1 1, 3) := by decide +kernel
theorem dX5_keep_110 : decode cX5_keep 110 = .ok (.goto (-33), 3) := by decide +kernel
theorem dX5_keep_113 : decode cX5_keep 113 = .ok (.aload_n 0, 1) := by decide +kernel
theorem dX5_keep_114 : decode cX5_keep 114 = .ok (.dup, 1) := by decide +kernel
theorem dX5_keep_115 : decode cX5_keep 115 = .ok (.getfield 159, 3) := by decide +kernel
theorem dX5_keep_118 : decode cX5_keep 118 = .ok (.iconst 1, 1) := by decide +kernel
theorem dX5_keep_119 : decode cX5_keep 119 = .ok (.iadd, 1) := by decide +kernel
theorem dX5_keep_120 : decode cX5_keep 120 = .ok (.putfield 159, 3) := by decide +kernel
theorem dX5_keep_123 : decode cX5_keep 123 = .ok (.aload_n 0, 1) := by decide +kernel
theorem dX5_keep_124 : decode cX5_keep 124 = .ok (.getfield 159, 3) := by decide +kernel
theorem dX5_keep_127 : decode cX5_keep 127 = .ok (.ireturn, 1) := by decide +kernel
set_option maxRecDepth 20000 in
theorem ggX5_back_X5_remember : GoodIn wsX5_back wsX5_remember := goodIn_r _ [13, 4, 14, 15, 5, 16, 17, 7, 68, 69, 70, 71, 72, 73, 74, 75, 76, 77, 78, 79, 80, 81, 82, 83, 84, 85, 86, 87, 88, 89, 90, 91, 92, 93, 94, 95, 96, 97, 98] (by decide +kernel) (by decide +kernel)
set_option maxRecDepth 20000 in
theorem gX5_back_X5_remember : GoodIn wsX5_back (wsV RX5 140 RX5 yX5_remember wsX5_remember) := goodIn_app (goodIn_of _ (by decide +kernel)) ggX5_back_X5_remember
set_option maxRecDepth 20000 in
theorem ggX5_back_X5_settle : GoodIn wsX5_back wsX5_settle := goodIn_r _ [21, 22, 23, 24, 25, 12, 26, 27, 28, 29, 30, 31, 32, 33, 34, 35, 36, 4, 5, 7, 37, 38, 39, 40, 41, 42, 43, 44, 45, 46, 47, 48, 49, 50, 51, 52, 53, 54, 55, 56, 57, 58, 59, 60, 61, 62, 63, 64, 65, 66, 67, 14, 15, 17, 68, 69, 70, 71, 72, 73, 74, 75, 76, 77, 78, 79, 80, 81, 82, 83, 84, 85, 86, 87, 88, 89, 90, 91, 92, 93, 94, 95, 96, 97, 98] (by decide +kernel) (by decide +kernel)
set_option maxRecDepth 20000 in
theorem gX5_back_X5_settle : GoodIn wsX5_back (wsV RX5 143 RX5 yX5_settle wsX5_settle) := goodIn_app (goodIn_of _ (by decide +kernel)) ggX5_back_X5_settle
theorem dX5_back_0 : decode cX5_back 0 = .ok (.aload_n 0, 1) := by decide +kernel
theorem dX5_back_1 : decode cX5_back 1 = .ok (.aload_n 0, 1) := by decide +kernel
theorem dX5_back_2 : decode cX5_back 2 = .ok (.getfield 159, 3) := by decide +kernel
theorem dX5_back_5 : decode cX5_back 5 = .ok (.ifCond .ne 7, 3) := by decide +kernel
theorem dX5_back_8 : decode cX5_back 8 = .ok (.iconst 1, 1) := by decide +kernel
theorem dX5_back_9 : decode cX5_back 9 = .ok (.goto 4, 3) := by decide +kernel
theorem dX5_back_12 : decode cX5_back 12 = .ok (.iconst 0, 1) := by decide +kernel
theorem dX5_back_13 : decode cX5_back 13 = .ok (.putfield 71, 3) := by decide +kernel
theorem dX5_back_16 : decode cX5_back 16 = .ok (.aload_n 0, 1) := by decide +kernel
theorem dX5_back_17 : decode cX5_back 17 = .ok (.getfield 71, 3) := by decide +kernel
theorem dX5_back_20 : decode cX5_back 20 = .ok (.ifCond .le 5, 3) := by decide +kernel
theorem dX5_back_23 : decode cX5_back 23 = .ok (.iconst 0, 1) := by decide +kernel
theorem dX5_back_24 : decode cX5_back 24 = .ok (.ireturn, 1) := by decide +kernel
theorem dX5_back_25 : decode cX5_back 25 = .ok (.aload_n 0, 1) := by decide +kernel
theorem dX5_back_26 : decode cX5_back 26 = .ok (.invokevirtual 140, 3) := by decide +kernel
theorem dX5_back_29 : decode cX5_back 29 = .ok (.aload_n 0, 1) := by decide +kernel
theorem dX5_back_30 : decode cX5_back 30 = .ok (.getfield 159, 3) := by decide +kernel
theorem dX5_back_33 : decode cX5_back 33 = .ok (.iconst 1, 1) := by decide +kernel
theorem dX5_back_34 : decode cX5_back 34 = .ok (.isub, 1) := by decide +kernel
theorem dX5_back_35 : decode cX5_back 35 = .ok (.istore_n 1, 1) := by decide +kernel
theorem dX5_back_36 : decode cX5_back 36 = .ok (.aload_n 0, 1) := by decide +kernel
theorem dX5_back_37 : decode cX5_back 37 = .ok (.aload_n 0, 1) := by decide +kernel
theorem dX5_back_38 : decode cX5_back 38 = .ok (.getfield 62, 3) := by decide +kernel
theorem dX5_back_41 : decode cX5_back 41 = .ok (.iload_n 1, 1) := by decide +kernel
theorem dX5_back_42 : decode cX5_back 42 = .ok (.iaload, 1) := by decide +kernel
theorem dX5_back_43 : decode cX5_back 43 = .ok (.putfield 82, 3) := by decide +kernel
theorem dX5_back_46 : decode cX5_back 46 = .ok (.iconst 0, 1) := by decide +kernel
theorem dX5_back_47 : decode cX5_back 47 = .ok (.istore_n 2, 1) := by decide +kernel
theorem dX5_back_48 : decode cX5_back 48 = .ok (.iload_n 2, 1) := by decide +kernel
theorem dX5_back_49 : decode cX5_back 49 = .ok (.aload_n 0, 1) := by decide +kernel
theorem dX5_back_50 : decode cX5_back 50 = .ok (.getfield 82, 3) := by decide +kernel
theorem dX5_back_53 : decode cX5_back 53 = .ok (.if_icmp .ge 26, 3) := by decide +kernel
theorem dX5_back_56 : decode cX5_back 56 = .ok (.aload_n 0, 1) := by decide +kernel
theorem dX5_back_57 : decode cX5_back 57 = .ok (.getfield 13, 3) := by decide +kernel
theorem dX5_back_60 : decode cX5_back 60 = .ok (.iload_n 2, 1) := by decide +kernel
theorem dX5_back_61 : decode cX5_back 61 = .ok (.aload_n 0, 1) := by decide +kernel
theorem dX5_back_62 : decode cX5_back 62 = .ok (.getfield 65, 3) := by decide +kernel
theorem dX5_back_65 : decode cX5_back 65 = .ok (.bipush 24, 2) := by decide +kernel
theorem dX5_back_67 : decode cX5_back 67 = .ok (.iload_n 1, 1) := by decide +kernel
theorem dX5_back_68 : decode cX5_back 68 = .ok (.imul, 1) := by decide +kernel
theorem dX5_back_69 : decode cX5_back 69 = .ok (.iload_n 2, 1) := by decide +kernel
theorem dX5_back_70 : decode cX5_back 70 = .ok (.iadd, 1) := by decide +kernel
theorem dX5_back_71 : decode cX5_back 71 = .ok (.iaload, 1) := by decide +kernel
theorem dX5_back_72 : decode cX5_back 72 = .ok (.iastore, 1) := by decide +kernel
theorem dX5_back_73 : decode cX5_back 73 = .ok (.iinc 2 1, 3) := by decide +kernel
theorem dX5_back_76 : decode cX5_back 76 = .ok (.goto (-28), 3) := by decide +kernel
theorem dX5_back_79 : decode cX5_back 79 = .ok (.iconst 0, 1) := by decide +kernel
theorem dX5_back_80 : decode cX5_back 80 = .ok (.istore_n 2, 1) := by decide +kernel
theorem dX5_back_81 : decode cX5_back 81 = .ok (.iload_n 2, 1) := by decide +kernel
theorem dX5_back_82 : decode cX5_back 82 = .ok (.iconst 4, 1) := by decide +kernel
theorem dX5_back_83 : decode cX5_back 83 = .ok (.aload_n 0, 1) := by decide +kernel
theorem dX5_back_84 : decode cX5_back 84 = .ok (.getfield 82, 3) := by decide +kernel
theorem dX5_back_87 : decode cX5_back 87 = .ok (.imul, 1) := by decide +kernel
theorem dX5_back_88 : decode cX5_back 88 = .ok (.if_icmp .ge 26, 3) := by decide +kernel
theorem dX5_back_91 : decode cX5_back 91 = .ok (.aload_n 0, 1) := by decide +kernel
theorem dX5_back_92 : decode cX5_back 92 = .ok (.getfield 16, 3) := by decide +kernel
theorem dX5_back_95 : decode cX5_back 95 = .ok (.iload_n 2, 1) := by decide +kernel
theorem dX5_back_96 : decode cX5_back 96 = .ok (.aload_n 0, 1) := by decide +kernel
theorem dX5_back_97 : decode cX5_back 97 = .ok (.getfield 68, 3) := by decide +kernel
theorem dX5_back_100 : decode cX5_back 100 = .ok (.bipush 96, 2) := by decide +kernel
theorem dX5_back_102 : decode cX5_back 102 = .ok (.iload_n 1, 1) := by decide +kernel
theorem dX5_back_103 : decode cX5_back 103 = .ok (.imul, 1) := by decide +kernel
theorem dX5_back_104 : decode cX5_back 104 = .ok (.iload_n 2, 1) := by decide +kernel
theorem dX5_back_105 : decode cX5_back 105 = .ok (.iadd, 1) := by decide +kernel
theorem dX5_back_106 : decode cX5_back 106 = .ok (.iaload, 1) := by decide +kernel
theorem dX5_back_107 : decode cX5_back 107 = .ok (.iastore, 1) := by decide +kernel
theorem dX5_back_108 : decode cX5_back 108 = .ok (.iinc 2 1, 3) := by decide +kernel
theorem dX5_back_111 : decode cX5_back 111 = .ok (.goto (-30), 3) := by decide +kernel
theorem dX5_back_114 : decode cX5_back 114 = .ok (.aload_n 0, 1) := by decide +kernel
theorem dX5_back_115 : decode cX5_back 115 = .ok (.aload_n 0, 1) := by decide +kernel
theorem dX5_back_116 : decode cX5_back 116 = .ok (.iconst 0, 1) := by decide +kernel
theorem dX5_back_117 : decode cX5_back 117 = .ok (.iconst 2, 1) := by decide +kernel
theorem dX5_back_118 : decode cX5_back 118 = .ok (.invokevirtual 143, 3) := by decide +kernel
theorem dX5_back_121 : decode cX5_back 121 = .ok (.putfield 71, 3) := by decide +kernel
theorem dX5_back_124 : decode cX5_back 124 = .ok (.aload_n 0, 1) := by decide +kernel
theorem dX5_back_125 : decode cX5_back 125 = .ok (.getfield 71, 3) := by decide +kernel
theorem dX5_back_128 : decode cX5_back 128 = .ok (.ifCond .le 5, 3) := by decide +kernel
theorem dX5_back_131 : decode cX5_back 131 = .ok (.iconst 0, 1) := by decide +kernel
theorem dX5_back_132 : decode cX5_back 132 = .ok (.ireturn, 1) := by decide +kernel
theorem dX5_back_133 : decode cX5_back 133 = .ok (.aload_n 0, 1) := by decide +kernel
theorem dX5_back_134 : decode cX5_back 134 = .ok (.dup, 1) := by decide +kernel
theorem dX5_back_135 : decode cX5_back 135 = .ok (.getfield 159, 3) := by decide +kernel
theorem dX5_back_138 : decode cX5_back 138 = .ok (.iconst 1, 1) := by decide +kernel
theorem dX5_back_139 : decode cX5_back 139 = .ok (.isub, 1) := by decide +kernel
theorem dX5_back_140 : decode cX5_back 140 = .ok (.putfield 159, 3) := by decide +kernel
theorem dX5_back_143 : decode cX5_back 143 = .ok (.aload_n 0, 1) := by decide +kernel
theorem dX5_back_144 : decode cX5_back 144 = .ok (.getfield 159, 3) := by decide +kernel
theorem dX5_back_147 : decode cX5_back 147 = .ok (.ireturn, 1) := by decide +kernel
set_option maxRecDepth 20000 in
theorem ggX5_has_X5_isTable : GoodIn wsX5_has wsX5_isTable := goodIn_r _ [6, 7, 15, 16, 17, 18, 19, 20, 21, 22, 23, 24, 25, 26, 27, 28, 29, 30, 31, 32, 33, 34, 35, 36, 37, 38, 39, 40, 41, 42, 43, 44, 45] (by decide +kernel) (by decide +kernel)
set_option maxRecDepth 20000 in
theorem gX5_has_X5_isTable : GoodIn wsX5_has (wsV RX5 78 RX5 yX5_isTable wsX5_isTable) := goodIn_app (goodIn_of _ (by decide +kernel)) ggX5_has_X5_isTable
set_option maxRecDepth 20000 in
theorem ggX5_has_X5_find : GoodIn wsX5_has wsX5_find := goodIn_r _ [11, 12, 13, 14, 15, 16, 17, 18, 19, 20, 21, 22, 23, 24, 25, 26, 27, 28, 29, 30, 31, 32, 33, 34, 35, 36, 37, 38, 39, 40, 41, 42, 43, 44, 45] (by decide +kernel) (by decide +kernel)
set_option maxRecDepth 20000 in
theorem gX5_has_X5_find : GoodIn wsX5_has (wsV RX5 85 RX5 yX5_find wsX5_find) := goodIn_app (goodIn_of _ (by decide +kernel)) ggX5_has_X5_find
theorem dX5_has_0 : decode cX5_has 0 = .ok (.aload_n 0, 1) := by decide +kernel
theorem dX5_has_1 : decode cX5_has 1 = .ok (.aload_n 0, 1) := by decide +kernel
theorem dX5_has_2 : decode cX5_has 2 = .ok (.iload_n 1, 1) := by decide +kernel
theorem dX5_has_3 : decode cX5_has 3 = .ok (.invokevirtual 78, 3) := by decide +kernel
theorem dX5_has_6 : decode cX5_has 6 = .ok (.ifCond .eq 7, 3) := by decide +kernel
theorem dX5_has_9 : decode cX5_has 9 = .ok (.iconst 0, 1) := by decide +kernel
theorem dX5_has_10 : decode cX5_has 10 = .ok (.goto 4, 3) := by decide +kernel
theorem dX5_has_13 : decode cX5_has 13 = .ok (.iconst 1, 1) := by decide +kernel
theorem dX5_has_14 : decode cX5_has 14 = .ok (.putfield 71, 3) := by decide +kernel
theorem dX5_has_17 : decode cX5_has 17 = .ok (.aload_n 0, 1) := by decide +kernel
theorem dX5_has_18 : decode cX5_has 18 = .ok (.getfield 71, 3) := by decide +kernel
theorem dX5_has_21 : decode cX5_has 21 = .ok (.ifCond .ne 20, 3) := by decide +kernel
theorem dX5_has_24 : decode cX5_has 24 = .ok (.iload_n 2, 1) := by decide +kernel
theorem dX5_has_25 : decode cX5_has 25 = .ok (.ifCond .eq 16, 3) := by decide +kernel
theorem dX5_has_28 : decode cX5_has 28 = .ok (.aload_n 0, 1) := by decide +kernel
theorem dX5_has_29 : decode cX5_has 29 = .ok (.iload_n 1, 1) := by decide +kernel
theorem dX5_has_30 : decode cX5_has 30 = .ok (.iload_n 2, 1) := by decide +kernel
theorem dX5_has_31 : decode cX5_has 31 = .ok (.invokevirtual 85, 3) := by decide +kernel
theorem dX5_has_34 : decode cX5_has 34 = .ok (.ifCond .lt 7, 3) := by decide +kernel
theorem dX5_has_37 : decode cX5_has 37 = .ok (.iconst 1, 1) := by decide +kernel
theorem dX5_has_38 : decode cX5_has 38 = .ok (.goto 4, 3) := by decide +kernel
theorem dX5_has_41 : decode cX5_has 41 = .ok (.iconst 0, 1) := by decide +kernel
theorem dX5_has_42 : decode cX5_has 42 = .ok (.ireturn, 1) := by decide +kernel
set_option maxRecDepth 20000 in
theorem ggX5_cell_X5_isColumn : GoodIn wsX5_cell wsX5_isColumn := goodIn_r _ [7, 8, 9, 10, 11, 6, 12, 13, 20, 21, 22, 23, 24, 25, 26, 27, 28, 29, 30, 31, 32, 33, 34, 35, 36, 37, 38, 39, 40, 41, 42, 43, 44, 45, 46, 47, 48, 49, 50] (by decide +kernel) (by decide +kernel)
set_option maxRecDepth 20000 in
theorem gX5_cell_X5_isColumn : GoodIn wsX5_cell (wsV RX5 118 RX5 yX5_isColumn wsX5_isColumn) := goodIn_app (goodIn_of _ (by decide +kernel)) ggX5_cell_X5_isColumn
set_option maxRecDepth 20000 in
theorem ggX5_cell_X5_find : GoodIn wsX5_cell wsX5_find := goodIn_r _ [17, 18, 19, 2, 20, 21, 22, 23, 24, 25, 26, 27, 28, 29, 30, 31, 32, 33, 34, 35, 36, 37, 38, 39, 40, 41, 42, 43, 44, 45, 46, 47, 48, 49, 50] (by decide +kernel) (by decide +kernel)
set_option maxRecDepth 20000 in
theorem gX5_cell_X5_find : GoodIn wsX5_cell (wsV RX5 85 RX5 yX5_find wsX5_find) := goodIn_app (goodIn_of _ (by decide +kernel)) ggX5_cell_X5_find
theorem dX5_cell_0 : decode cX5_cell 0 = .ok (.aload_n 0, 1) := by decide +kernel
theorem dX5_cell_1 : decode cX5_cell 1 = .ok (.aload_n 0, 1) := by decide +kernel
theorem dX5_cell_2 : decode cX5_cell 2 = .ok (.iload_n 1, 1) := by decide +kernel
theorem dX5_cell_3 : decode cX5_cell 3 = .ok (.iload_n 3, 1) := by decide +kernel
theorem dX5_cell_4 : decode cX5_cell 4 = .ok (.invokevirtual 118, 3) := by decide +kernel
theorem dX5_cell_7 : decode cX5_cell 7 = .ok (.ifCond .ne 7, 3) := by decide +kernel
theorem dX5_cell_10 : decode cX5_cell 10 = .ok (.iconst 1, 1) := by decide +kernel
theorem dX5_cell_11 : decode cX5_cell 11 = .ok (.goto 21, 3) := by decide +kernel
theorem dX5_cell_14 : decode cX5_cell 14 = .ok (.iload_n 2, 1) := by decide +kernel
theorem dX5_cell_15 : decode cX5_cell 15 = .ok (.ifCond .eq 12, 3) := by decide +kernel
theorem dX5_cell_18 : decode cX5_cell 18 = .ok (.aload_n 0, 1) := by decide +kernel
theorem dX5_cell_19 : decode cX5_cell 19 = .ok (.iload_n 1, 1) := by decide +kernel
theorem dX5_cell_20 : decode cX5_cell 20 = .ok (.iload_n 2, 1) := by decide +kernel
theorem dX5_cell_21 : decode cX5_cell 21 = .ok (.invokevirtual 85, 3) := by decide +kernel
theorem dX5_cell_24 : decode cX5_cell 24 = .ok (.ifCond .ge 7, 3) := by decide +kernel
theorem dX5_cell_27 : decode cX5_cell 27 = .ok (.iconst 2, 1) := by decide +kernel
theorem dX5_cell_28 : decode cX5_cell 28 = .ok (.goto 4, 3) := by decide +kernel
theorem dX5_cell_31 : decode cX5_cell 31 = .ok (.iconst 0, 1) := by decide +kernel
theorem dX5_cell_32 : decode cX5_cell 32 = .ok (.putfield 71, 3) := by decide +kernel
theorem dX5_cell_35 : decode cX5_cell 35 = .ok (.aload_n 0, 1) := by decide +kernel
theorem dX5_cell_36 : decode cX5_cell 36 = .ok (.getfield 71, 3) := by decide +kernel
theorem dX5_cell_39 : decode cX5_cell 39 = .ok (.ifCond .le 5, 3) := by decide +kernel
theorem dX5_cell_42 : decode cX5_cell 42 = .ok (.iconst 0, 1) := by decide +kernel
theorem dX5_cell_43 : decode cX5_cell 43 = .ok (.ireturn, 1) := by decide +kernel
theorem dX5_cell_44 : decode cX5_cell 44 = .ok (.aload_n 0, 1) := by decide +kernel
theorem dX5_cell_45 : decode cX5_cell 45 = .ok (.iload_n 1, 1) := by decide +kernel
theorem dX5_cell_46 : decode cX5_cell 46 = .ok (.iload_n 2, 1) := by decide +kernel
theorem dX5_cell_47 : decode cX5_cell 47 = .ok (.invokevirtual 85, 3) := by decide +kernel
theorem dX5_cell_50 : decode cX5_cell 50 = .ok (.istore 4, 2) := by decide +kernel
theorem dX5_cell_52 : decode cX5_cell 52 = .ok (.aload_n 0, 1) := by decide +kernel
theorem dX5_cell_53 : decode cX5_cell 53 = .ok (.getfield 16, 3) := by decide +kernel
theorem dX5_cell_56 : decode cX5_cell 56 = .ok (.iconst 4, 1) := by decide +kernel
theorem dX5_cell_57 : decode cX5_cell 57 = .ok (.iload 4, 2) := by decide +kernel
theorem dX5_cell_59 : decode cX5_cell 59 = .ok (.imul, 1) := by decide +kernel
theorem dX5_cell_60 : decode cX5_cell 60 = .ok (.iload_n 3, 1) := by decide +kernel
theorem dX5_cell_61 : decode cX5_cell 61 = .ok (.iadd, 1) := by decide +kernel
theorem dX5_cell_62 : decode cX5_cell 62 = .ok (.iaload, 1) := by decide +kernel
theorem dX5_cell_63 : decode cX5_cell 63 = .ok (.ireturn, 1) := by decide +kernel
set_option maxRecDepth 20000 in
theorem ggX5_key_X5_isTable : GoodIn wsX5_key wsX5_isTable := goodIn_r _ [9, 10, 11, 12, 13, 14, 15, 16, 17, 18, 19, 20, 21, 22, 23, 24, 25, 26, 27, 28, 29, 30, 31, 32, 33, 34, 35, 36, 37, 38, 39, 40, 41] (by decide +kernel) (by decide +kernel)
set_option maxRecDepth 20000 in
theorem gX5_key_X5_isTable : GoodIn wsX5_key (wsV RX5 78 RX5 yX5_isTable wsX5_isTable) := goodIn_app (goodIn_of _ (by decide +kernel)) ggX5_key_X5_isTable
theorem dX5_key_0 : decode cX5_key 0 = .ok (.aload_n 0, 1) := by decide +kernel
theorem dX5_key_1 : decode cX5_key 1 = .ok (.aload_n 0, 1) := by decide +kernel
theorem dX5_key_2 : decode cX5_key 2 = .ok (.iload_n 1, 1) := by decide +kernel
theorem dX5_key_3 : decode cX5_key 3 = .ok (.invokevirtual 78, 3) := by decide +kernel
theorem dX5_key_6 : decode cX5_key 6 = .ok (.ifCond .eq 7, 3) := by decide +kernel
theorem dX5_key_9 : decode cX5_key 9 = .ok (.iconst 0, 1) := by decide +kernel
theorem dX5_key_10 : decode cX5_key 10 = .ok (.goto 4, 3) := by decide +kernel
theorem dX5_key_13 : decode cX5_key 13 = .ok (.iconst 1, 1) := by decide +kernel
theorem dX5_key_14 : decode cX5_key 14 = .ok (.putfield 71, 3) := by decide +kernel
theorem dX5_key_17 : decode cX5_key 17 = .ok (.aload_n 0, 1) := by decide +kernel
theorem dX5_key_18 : decode cX5_key 18 = .ok (.getfield 71, 3) := by decide +kernel
theorem dX5_key_21 : decode cX5_key 21 = .ok (.ifCond .le 5, 3) := by decide +kernel
theorem dX5_key_24 : decode cX5_key 24 = .ok (.iconst 0, 1) := by decide +kernel
theorem dX5_key_25 : decode cX5_key 25 = .ok (.ireturn, 1) := by decide +kernel
theorem dX5_key_26 : decode cX5_key 26 = .ok (.iconst 0, 1) := by decide +kernel
theorem dX5_key_27 : decode cX5_key 27 = .ok (.istore_n 3, 1) := by decide +kernel
theorem dX5_key_28 : decode cX5_key 28 = .ok (.iload_n 3, 1) := by decide +kernel
theorem dX5_key_29 : decode cX5_key 29 = .ok (.aload_n 0, 1) := by decide +kernel
theorem dX5_key_30 : decode cX5_key 30 = .ok (.getfield 82, 3) := by decide +kernel
theorem dX5_key_33 : decode cX5_key 33 = .ok (.if_icmp .ge 96, 3) := by decide +kernel
theorem dX5_key_36 : decode cX5_key 36 = .ok (.iconst 0, 1) := by decide +kernel
theorem dX5_key_37 : decode cX5_key 37 = .ok (.istore 4, 2) := by decide +kernel
theorem dX5_key_39 : decode cX5_key 39 = .ok (.iconst 0, 1) := by decide +kernel
theorem dX5_key_40 : decode cX5_key 40 = .ok (.istore 5, 2) := by decide +kernel
theorem dX5_key_42 : decode cX5_key 42 = .ok (.iload 5, 2) := by decide +kernel
theorem dX5_key_44 : decode cX5_key 44 = .ok (.aload_n 0, 1) := by decide +kernel
theorem dX5_key_45 : decode cX5_key 45 = .ok (.getfield 82, 3) := by decide +kernel
theorem dX5_key_48 : decode cX5_key 48 = .ok (.if_icmp .ge 50, 3) := by decide +kernel
theorem dX5_key_51 : decode cX5_key 51 = .ok (.iload 4, 2) := by decide +kernel
theorem dX5_key_53 : decode cX5_key 53 = .ok (.aload_n 0, 1) := by decide +kernel
theorem dX5_key_54 : decode cX5_key 54 = .ok (.getfield 13, 3) := by decide +kernel
theorem dX5_key_57 : decode cX5_key 57 = .ok (.iload 5, 2) := by decide +kernel
theorem dX5_key_59 : decode cX5_key 59 = .ok (.iaload, 1) := by decide +kernel
theorem dX5_key_60 : decode cX5_key 60 = .ok (.iload_n 1, 1) := by decide +kernel
theorem dX5_key_61 : decode cX5_key 61 = .ok (.if_icmp .ne 27, 3) := by decide +kernel
theorem dX5_key_64 : decode cX5_key 64 = .ok (.aload_n 0, 1) := by decide +kernel
theorem dX5_key_65 : decode cX5_key 65 = .ok (.getfield 16, 3) := by decide +kernel
theorem dX5_key_68 : decode cX5_key 68 = .ok (.iconst 4, 1) := by decide +kernel
theorem dX5_key_69 : decode cX5_key 69 = .ok (.iload 5, 2) := by decide +kernel
theorem dX5_key_71 : decode cX5_key 71 = .ok (.imul, 1) := by decide +kernel
theorem dX5_key_72 : decode cX5_key 72 = .ok (.iaload, 1) := by decide +kernel
theorem dX5_key_73 : decode cX5_key 73 = .ok (.aload_n 0, 1) := by decide +kernel
theorem dX5_key_74 : decode cX5_key 74 = .ok (.getfield 16, 3) := by decide +kernel
theorem dX5_key_77 : decode cX5_key 77 = .ok (.iconst 4, 1) := by decide +kernel
theorem dX5_key_78 : decode cX5_key 78 = .ok (.iload_n 3, 1) := by decide +kernel
theorem dX5_key_79 : decode cX5_key 79 = .ok (.imul, 1) := by decide +kernel
theorem dX5_key_80 : decode cX5_key 80 = .ok (.iaload, 1) := by decide +kernel
theorem dX5_key_81 : decode cX5_key 81 = .ok (.if_icmp .ge 7, 3) := by decide +kernel
theorem dX5_key_84 : decode cX5_key 84 = .ok (.iconst 1, 1) := by decide +kernel
theorem dX5_key_85 : decode cX5_key 85 = .ok (.goto 4, 3) := by decide +kernel
theorem dX5_key_88 : decode cX5_key 88 = .ok (.iconst 0, 1) := by decide +kernel
theorem dX5_key_89 : decode cX5_key 89 = .ok (.iadd, 1) := by decide +kernel
theorem dX5_key_90 : decode cX5_key 90 = .ok (.istore 4, 2) := by decide +kernel
theorem dX5_key_92 : decode cX5_key 92 = .ok (.iinc 5 1, 3) := by decide +kernel
theorem dX5_key_95 : decode cX5_key 95 = .ok (.goto (-53), 3) := by decide +kernel
theorem dX5_key_98 : decode cX5_key 98 = .ok (.aload_n 0, 1) := by decide +kernel
theorem dX5_key_99 : decode cX5_key 99 = .ok (.getfield 13, 3) := by decide +kernel
theorem dX5_key_102 : decode cX5_key 102 = .ok (.iload_n 3, 1) := by decide +kernel
theorem dX5_key_103 : decode cX5_key 103 = .ok (.iaload, 1) := by decide +kernel
theorem dX5_key_104 : decode cX5_key 104 = .ok (.iload_n 1, 1) := by decide +kernel
theorem dX5_key_105 : decode cX5_key 105 = .ok (.if_icmp .ne 18, 3) := by decide +kernel
theorem dX5_key_108 : decode cX5_key 108 = .ok (.iload 4, 2) := by decide +kernel
theorem dX5_key_110 : decode cX5_key 110 = .ok (.iload_n 2, 1) := by decide +kernel
theorem dX5_key_111 : decode cX5_key 111 = .ok (.if_icmp .ne 12, 3) := by decide +kernel
theorem dX5_key_114 : decode cX5_key 114 = .ok (.aload_n 0, 1) := by decide +kernel
theorem dX5_key_115 : decode cX5_key 115 = .ok (.getfield 16, 3) := by decide +kernel
theorem dX5_key_118 : decode cX5_key 118 = .ok (.iconst 4, 1) := by decide +kernel
theorem dX5_key_119 : decode cX5_key 119 = .ok (.iload_n 3, 1) := by decide +kernel
theorem dX5_key_120 : decode cX5_key 120 = .ok (.imul, 1) := by decide +kernel
theorem dX5_key_121 : decode cX5_key 121 = .ok (.iaload, 1) := by decide +kernel
theorem dX5_key_122 : decode cX5_key 122 = .ok (.ireturn, 1) := by decide +kernel
theorem dX5_key_123 : decode cX5_key 123 = .ok (.iinc 3 1, 3) := by decide +kernel
theorem dX5_key_126 : decode cX5_key 126 = .ok (.goto (-98), 3) := by decide +kernel
theorem dX5_key_129 : decode cX5_key 129 = .ok (.aload_n 0, 1) := by decide +kernel
theorem dX5_key_130 : decode cX5_key 130 = .ok (.iconst 2, 1) := by decide +kernel
theorem dX5_key_131 : decode cX5_key 131 = .ok (.putfield 71, 3) := by decide +kernel
theorem dX5_key_134 : decode cX5_key 134 = .ok (.iconst 0, 1) := by decide +kernel
theorem dX5_key_135 : decode cX5_key 135 = .ok (.ireturn, 1) := by decide +kernel
set_option maxRecDepth 20000 in
theorem ggX5_count_X5_isTable : GoodIn wsX5_count wsX5_isTable := goodIn_r _ [8, 9, 10, 11, 12, 13, 14, 15, 16, 17, 18, 19, 20, 21, 22, 23, 24, 25, 26, 27, 28, 29, 30, 31, 32, 33, 34, 35, 36, 37, 38, 39, 40] (by decide +kernel) (by decide +kernel)
set_option maxRecDepth 20000 in
theorem gX5_count_X5_isTable : GoodIn wsX5_count (wsV RX5 78 RX5 yX5_isTable wsX5_isTable) := goodIn_app (goodIn_of _ (by decide +kernel)) ggX5_count_X5_isTable
theorem dX5_count_0 : decode cX5_count 0 = .ok (.aload_n 0, 1) := by decide +kernel
theorem dX5_count_1 : decode cX5_count 1 = .ok (.aload_n 0, 1) := by decide +kernel
theorem dX5_count_2 : decode cX5_count 2 = .ok (.iload_n 1, 1) := by decide +kernel
theorem dX5_count_3 : decode cX5_count 3 = .ok (.invokevirtual 78, 3) := by decide +kernel
theorem dX5_count_6 : decode cX5_count 6 = .ok (.ifCond .eq 7, 3) := by decide +kernel
theorem dX5_count_9 : decode cX5_count 9 = .ok (.iconst 0, 1) := by decide +kernel
theorem dX5_count_10 : decode cX5_count 10 = .ok (.goto 4, 3) := by decide +kernel
theorem dX5_count_13 : decode cX5_count 13 = .ok (.iconst 1, 1) := by decide +kernel
theorem dX5_count_14 : decode cX5_count 14 = .ok (.putfield 71, 3) := by decide +kernel
theorem dX5_count_17 : decode cX5_count 17 = .ok (.iconst 0, 1) := by decide +kernel
theorem dX5_count_18 : decode cX5_count 18 = .ok (.istore_n 2, 1) := by decide +kernel
theorem dX5_count_19 : decode cX5_count 19 = .ok (.iconst 0, 1) := by decide +kernel
theorem dX5_count_20 : decode cX5_count 20 = .ok (.istore_n 3, 1) := by decide +kernel
theorem dX5_count_21 : decode cX5_count 21 = .ok (.iload_n 3, 1) := by decide +kernel
theorem dX5_count_22 : decode cX5_count 22 = .ok (.aload_n 0, 1) := by decide +kernel
theorem dX5_count_23 : decode cX5_count 23 = .ok (.getfield 82, 3) := by decide +kernel
theorem dX5_count_26 : decode cX5_count 26 = .ok (.if_icmp .ge 34, 3) := by decide +kernel
theorem dX5_count_29 : decode cX5_count 29 = .ok (.aload_n 0, 1) := by decide +kernel
theorem dX5_count_30 : decode cX5_count 30 = .ok (.getfield 71, 3) := by decide +kernel
theorem dX5_count_33 : decode cX5_count 33 = .ok (.ifCond .ne 27, 3) := by decide +kernel
theorem dX5_count_36 : decode cX5_count 36 = .ok (.iload_n 2, 1) := by decide +kernel
theorem dX5_count_37 : decode cX5_count 37 = .ok (.aload_n 0, 1) := by decide +kernel
theorem dX5_count_38 : decode cX5_count 38 = .ok (.getfield 13, 3) := by decide +kernel
theorem dX5_count_41 : decode cX5_count 41 = .ok (.iload_n 3, 1) := by decide +kernel
theorem dX5_count_42 : decode cX5_count 42 = .ok (.iaload, 1) := by decide +kernel
theorem dX5_count_43 : decode cX5_count 43 = .ok (.iload_n 1, 1) := by decide +kernel
theorem dX5_count_44 : decode cX5_count 44 = .ok (.if_icmp .ne 7, 3) := by decide +kernel
theorem dX5_count_47 : decode cX5_count 47 = .ok (.iconst 1, 1) := by decide +kernel
theorem dX5_count_48 : decode cX5_count 48 = .ok (.goto 4, 3) := by decide +kernel
theorem dX5_count_51 : decode cX5_count 51 = .ok (.iconst 0, 1) := by decide +kernel
theorem dX5_count_52 : decode cX5_count 52 = .ok (.iadd, 1) := by decide +kernel
theorem dX5_count_53 : decode cX5_count 53 = .ok (.istore_n 2, 1) := by decide +kernel
theorem dX5_count_54 : decode cX5_count 54 = .ok (.iinc 3 1, 3) := by decide +kernel
theorem dX5_count_57 : decode cX5_count 57 = .ok (.goto (-36), 3) := by decide +kernel
theorem dX5_count_60 : decode cX5_count 60 = .ok (.iload_n 2, 1) := by decide +kernel
theorem dX5_count_61 : decode cX5_count 61 = .ok (.ireturn, 1) := by decide +kernel
set_option maxRecDepth 20000 in
theorem ggX5_referring_X5_find : GoodIn wsX5_referring wsX5_find := goodIn_r _ [13, 4, 5, 7, 14, 15, 16, 17, 18, 19, 20, 21, 22, 23, 24, 25, 26, 27, 28, 29, 30, 31, 32, 33, 34, 35, 36, 37, 38, 39, 40, 41, 42, 43, 44] (by decide +kernel) (by decide +kernel)
set_option maxRecDepth 20000 in
theorem gX5_referring_X5_find : GoodIn wsX5_referring (wsV RX5 85 RX5 yX5_find wsX5_find) := goodIn_app (goodIn_of _ (by decide +kernel)) ggX5_referring_X5_find
theorem dX5_referring_0 : decode cX5_referring 0 = .ok (.aload_n 0, 1) := by decide +kernel
theorem dX5_referring_1 : decode cX5_referring 1 = .ok (.iload_n 1, 1) := by decide +kernel
theorem dX5_referring_2 : decode cX5_referring 2 = .ok (.ifCond .lt 11, 3) := by decide +kernel
theorem dX5_referring_5 : decode cX5_referring 5 = .ok (.iload_n 1, 1) := by decide +kernel
theorem dX5_referring_6 : decode cX5_referring 6 = .ok (.aload_n 0, 1) := by decide +kernel
theorem dX5_referring_7 : decode cX5_referring 7 = .ok (.getfield 106, 3) := by decide +kernel
theorem dX5_referring_10 : decode cX5_referring 10 = .ok (.if_icmp .lt 7, 3) := by decide +kernel
theorem dX5_referring_13 : decode cX5_referring 13 = .ok (.iconst 1, 1) := by decide +kernel
theorem dX5_referring_14 : decode cX5_referring 14 = .ok (.goto 26, 3) := by decide +kernel
theorem dX5_referring_17 : decode cX5_referring 17 = .ok (.iload_n 2, 1) := by decide +kernel
theorem dX5_referring_18 : decode cX5_referring 18 = .ok (.ifCond .eq 17, 3) := by decide +kernel
theorem dX5_referring_21 : decode cX5_referring 21 = .ok (.aload_n 0, 1) := by decide +kernel
theorem dX5_referring_22 : decode cX5_referring 22 = .ok (.aload_n 0, 1) := by decide +kernel
theorem dX5_referring_23 : decode cX5_referring 23 = .ok (.getfield 35, 3) := by decide +kernel
theorem dX5_referring_26 : decode cX5_referring 26 = .ok (.iload_n 1, 1) := by decide +kernel
theorem dX5_referring_27 : decode cX5_referring 27 = .ok (.iaload, 1) := by decide +kernel
theorem dX5_referring_28 : decode cX5_referring 28 = .ok (.iload_n 2, 1) := by decide +kernel
theorem dX5_referring_29 : decode cX5_referring 29 = .ok (.invokevirtual 85, 3) := by decide +kernel
theorem dX5_referring_32 : decode cX5_referring 32 = .ok (.ifCond .ge 7, 3) := by decide +kernel
theorem dX5_referring_35 : decode cX5_referring 35 = .ok (.iconst 2, 1) := by decide +kernel
theorem dX5_referring_36 : decode cX5_referring 36 = .ok (.goto 4, 3) := by decide +kernel
theorem dX5_referring_39 : decode cX5_referring 39 = .ok (.iconst 0, 1) := by decide +kernel
theorem dX5_referring_40 : decode cX5_referring 40 = .ok (.putfield 71, 3) := by decide +kernel
theorem dX5_referring_43 : decode cX5_referring 43 = .ok (.iconst 0, 1) := by decide +kernel
theorem dX5_referring_44 : decode cX5_referring 44 = .ok (.istore_n 3, 1) := by decide +kernel
theorem dX5_referring_45 : decode cX5_referring 45 = .ok (.iconst 0, 1) := by decide +kernel
theorem dX5_referring_46 : decode cX5_referring 46 = .ok (.istore 4, 2) := by decide +kernel
theorem dX5_referring_48 : decode cX5_referring 48 = .ok (.iload 4, 2) := by decide +kernel
theorem dX5_referring_50 : decode cX5_referring 50 = .ok (.aload_n 0, 1) := by decide +kernel
theorem dX5_referring_51 : decode cX5_referring 51 = .ok (.getfield 82, 3) := by decide +kernel
theorem dX5_referring_54 : decode cX5_referring 54 = .ok (.if_icmp .ge 60, 3) := by decide +kernel
theorem dX5_referring_57 : decode cX5_referring 57 = .ok (.aload_n 0, 1) := by decide +kernel
theorem dX5_referring_58 : decode cX5_referring 58 = .ok (.getfield 71, 3) := by decide +kernel
theorem dX5_referring_61 : decode cX5_referring 61 = .ok (.ifCond .ne 53, 3) := by decide +kernel
theorem dX5_referring_64 : decode cX5_referring 64 = .ok (.iload_n 3, 1) := by decide +kernel
theorem dX5_referring_65 : decode cX5_referring 65 = .ok (.aload_n 0, 1) := by decide +kernel
theorem dX5_referring_66 : decode cX5_referring 66 = .ok (.getfield 13, 3) := by decide +kernel
theorem dX5_referring_69 : decode cX5_referring 69 = .ok (.iload 4, 2) := by decide +kernel
theorem dX5_referring_71 : decode cX5_referring 71 = .ok (.iaload, 1) := by decide +kernel
theorem dX5_referring_72 : decode cX5_referring 72 = .ok (.aload_n 0, 1) := by decide +kernel
theorem dX5_referring_73 : decode cX5_referring 73 = .ok (.getfield 29, 3) := by decide +kernel
theorem dX5_referring_76 : decode cX5_referring 76 = .ok (.iload_n 1, 1) := by decide +kernel
theorem dX5_referring_77 : decode cX5_referring 77 = .ok (.iaload, 1) := by decide +kernel
theorem dX5_referring_78 : decode cX5_referring 78 = .ok (.if_icmp .ne 27, 3) := by decide +kernel
theorem dX5_referring_81 : decode cX5_referring 81 = .ok (.aload_n 0, 1) := by decide +kernel
theorem dX5_referring_82 : decode cX5_referring 82 = .ok (.getfield 16, 3) := by decide +kernel
theorem dX5_referring_85 : decode cX5_referring 85 = .ok (.iconst 4, 1) := by decide +kernel
theorem dX5_referring_86 : decode cX5_referring 86 = .ok (.iload 4, 2) := by decide +kernel
theorem dX5_referring_88 : decode cX5_referring 88 = .ok (.imul, 1) := by decide +kernel
theorem dX5_referring_89 : decode cX5_referring 89 = .ok (.aload_n 0, 1) := by decide +kernel
theorem dX5_referring_90 : decode cX5_referring 90 = .ok (.getfield 32, 3) := by decide +kernel
theorem dX5_referring_93 : decode cX5_referring 93 = .ok (.iload_n 1, 1) := by decide +kernel
theorem dX5_referring_94 : decode cX5_referring 94 = .ok (.iaload, 1) := by decide +kernel
theorem dX5_referring_95 : decode cX5_referring 95 = .ok (.iadd, 1) := by decide +kernel
theorem dX5_referring_96 : decode cX5_referring 96 = .ok (.iaload, 1) := by decide +kernel
theorem dX5_referring_97 : decode cX5_referring 97 = .ok (.iload_n 2, 1) := by decide +kernel
theorem dX5_referring_98 : decode cX5_referring 98 = .ok (.if_icmp .ne 7, 3) := by decide +kernel
theorem dX5_referring_101 : decode cX5_referring 101 = .ok (.iconst 1, 1) := by decide +kernel
theorem dX5_referring_102 : decode cX5_referring 102 = .ok (.goto 4, 3) := by decide +kernel
theorem dX5_referring_105 : decode cX5_referring 105 = .ok (.iconst 0, 1) := by decide +kernel
theorem dX5_referring_106 : decode cX5_referring 106 = .ok (.iadd, 1) := by decide +kernel
theorem dX5_referring_107 : decode cX5_referring 107 = .ok (.istore_n 3, 1) := by decide +kernel
theorem dX5_referring_108 : decode cX5_referring 108 = .ok (.iinc 4 1, 3) := by decide +kernel
theorem dX5_referring_111 : decode cX5_referring 111 = .ok (.goto (-63), 3) := by decide +kernel
theorem dX5_referring_114 : decode cX5_referring 114 = .ok (.iload_n 3, 1) := by decide +kernel
theorem dX5_referring_115 : decode cX5_referring 115 = .ok (.ireturn, 1) := by decide +kernel
theorem dX5_reason_0 : decode cX5_reason 0 = .ok (.aload_n 0, 1) := by decide +kernel
theorem dX5_reason_1 : decode cX5_reason 1 = .ok (.iconst 0, 1) := by decide +kernel
theorem dX5_reason_2 : decode cX5_reason 2 = .ok (.putfield 71, 3) := by decide +kernel
theorem dX5_reason_5 : decode cX5_reason 5 = .ok (.aload_n 0, 1) := by decide +kernel
theorem dX5_reason_6 : decode cX5_reason 6 = .ok (.getfield 121, 3) := by decide +kernel
theorem dX5_reason_9 : decode cX5_reason 9 = .ok (.ireturn, 1) := by decide +kernel
theorem dJ9_min_7cf53_0 : decode cJ9_min_7cf53 0 = .ok (.iload_n 0, 1) := by decide +kernel
theorem dJ9_min_7cf53_1 : decode cJ9_min_7cf53 1 = .ok (.iload_n 1, 1) := by decide +kernel
theorem dJ9_min_7cf53_2 : decode cJ9_min_7cf53 2 = .ok (.if_icmp .gt 7, 3) := by decide +kernel
theorem dJ9_min_7cf53_5 : decode cJ9_min_7cf53 5 = .ok (.iload_n 0, 1) := by decide +kernel
theorem dJ9_min_7cf53_6 : decode cJ9_min_7cf53 6 = .ok (.goto 4, 3) := by decide +kernel
theorem dJ9_min_7cf53_9 : decode cJ9_min_7cf53 9 = .ok (.iload_n 1, 1) := by decide +kernel
theorem dJ9_min_7cf53_10 : decode cJ9_min_7cf53 10 = .ok (.ireturn, 1) := by decide +kernel
theorem dJ7_fill_53178_0 : decode cJ7_fill_53178 0 = .ok (.iconst 0, 1) := by decide +kernel
theorem dJ7_fill_53178_1 : decode cJ7_fill_53178 1 = .ok (.istore_n 2, 1) := by decide +kernel
theorem dJ7_fill_53178_2 : decode cJ7_fill_53178 2 = .ok (.aload_n 0, 1) := by decide +kernel
theorem dJ7_fill_53178_3 : decode cJ7_fill_53178 3 = .ok (.arraylength, 1) := by decide +kernel
theorem dJ7_fill_53178_4 : decode cJ7_fill_53178 4 = .ok (.istore_n 3, 1) := by decide +kernel
theorem dJ7_fill_53178_5 : decode cJ7_fill_53178 5 = .ok (.iload_n 2, 1) := by decide +kernel
theorem dJ7_fill_53178_6 : decode cJ7_fill_53178 6 = .ok (.iload_n 3, 1) := by decide +kernel
theorem dJ7_fill_53178_7 : decode cJ7_fill_53178 7 = .ok (.if_icmp .ge 13, 3) := by decide +kernel
theorem dJ7_fill_53178_10 : decode cJ7_fill_53178 10 = .ok (.aload_n 0, 1) := by decide +kernel
theorem dJ7_fill_53178_11 : decode cJ7_fill_53178 11 = .ok (.iload_n 2, 1) := by decide +kernel
theorem dJ7_fill_53178_12 : decode cJ7_fill_53178 12 = .ok (.iload_n 1, 1) := by decide +kernel
theorem dJ7_fill_53178_13 : decode cJ7_fill_53178 13 = .ok (.iastore, 1) := by decide +kernel
theorem dJ7_fill_53178_14 : decode cJ7_fill_53178 14 = .ok (.iinc 2 1, 3) := by decide +kernel
theorem dJ7_fill_53178_17 : decode cJ7_fill_53178 17 = .ok (.goto (-12), 3) := by decide +kernel
theorem dJ7_fill_53178_20 : decode cJ7_fill_53178 20 = .ok (.return_, 1) := by decide +kernel
theorem dJ7_copyOf_59c91_0 : decode cJ7_copyOf_59c91 0 = .ok (.iload_n 1, 1) := by decide +kernel
theorem dJ7_copyOf_59c91_1 : decode cJ7_copyOf_59c91 1 = .ok (.aload_n 0, 1) := by decide +kernel
theorem dJ7_copyOf_59c91_2 : decode cJ7_copyOf_59c91 2 = .ok (.arraylength, 1) := by decide +kernel
theorem dJ7_copyOf_59c91_3 : decode cJ7_copyOf_59c91 3 = .ok (.if_icmp .ne 11, 3) := by decide +kernel
theorem dJ7_copyOf_59c91_6 : decode cJ7_copyOf_59c91 6 = .ok (.aload_n 0, 1) := by decide +kernel
theorem dJ7_copyOf_59c91_7 : decode cJ7_copyOf_59c91 7 = .ok (.invokevirtual 316, 3) := by decide +kernel
theorem dJ7_copyOf_59c91_10 : decode cJ7_copyOf_59c91 10 = .ok (.checkcast 317, 3) := by decide +kernel
theorem dJ7_copyOf_59c91_13 : decode cJ7_copyOf_59c91 13 = .ok (.areturn, 1) := by decide +kernel
theorem dJ7_copyOf_59c91_14 : decode cJ7_copyOf_59c91 14 = .ok (.iload_n 1, 1) := by decide +kernel
theorem dJ7_copyOf_59c91_15 : decode cJ7_copyOf_59c91 15 = .ok (.newarray .int, 2) := by decide +kernel
theorem dJ7_copyOf_59c91_17 : decode cJ7_copyOf_59c91 17 = .ok (.astore_n 2, 1) := by decide +kernel
theorem dJ7_copyOf_59c91_18 : decode cJ7_copyOf_59c91 18 = .ok (.aload_n 0, 1) := by decide +kernel
theorem dJ7_copyOf_59c91_19 : decode cJ7_copyOf_59c91 19 = .ok (.iconst 0, 1) := by decide +kernel
theorem dJ7_copyOf_59c91_20 : decode cJ7_copyOf_59c91 20 = .ok (.aload_n 2, 1) := by decide +kernel
theorem dJ7_copyOf_59c91_21 : decode cJ7_copyOf_59c91 21 = .ok (.iconst 0, 1) := by decide +kernel
theorem dJ7_copyOf_59c91_22 : decode cJ7_copyOf_59c91 22 = .ok (.aload_n 0, 1) := by decide +kernel
theorem dJ7_copyOf_59c91_23 : decode cJ7_copyOf_59c91 23 = .ok (.arraylength, 1) := by decide +kernel
theorem dJ7_copyOf_59c91_24 : decode cJ7_copyOf_59c91 24 = .ok (.iload_n 1, 1) := by decide +kernel
theorem dJ7_copyOf_59c91_25 : decode cJ7_copyOf_59c91 25 = .ok (.invokestatic 304, 3) := by decide +kernel
theorem dJ7_copyOf_59c91_28 : decode cJ7_copyOf_59c91 28 = .ok (.invokestatic 150, 3) := by decide +kernel
theorem dJ7_copyOf_59c91_31 : decode cJ7_copyOf_59c91 31 = .ok (.aload_n 2, 1) := by decide +kernel
theorem dJ7_copyOf_59c91_32 : decode cJ7_copyOf_59c91 32 = .ok (.areturn, 1) := by decide +kernel
set_option maxRecDepth 20000 in
theorem ggL_table_X4_table : GoodIn wsL_table wsX4_table := goodIn_ca (goodIn_ca (goodIn_r _ [7, 8, 9, 10, 11, 6, 12, 13, 14, 15, 16, 17, 18, 19, 20, 21, 22, 23, 24, 25, 26, 27, 28, 29, 30, 31, 32, 33, 34, 35] (by decide +kernel) (by decide +kernel)) (goodIn_sub (fun _ h => List.mem_cons_of_mem _ (List.mem_append_left _ (List.mem_append_right _ h))) (by decide +kernel))) (goodIn_sub (fun _ h => List.mem_cons_of_mem _ (List.mem_append_right _ h)) (by decide +kernel))
set_option maxRecDepth 20000 in
theorem gL_table_X4_table : GoodIn wsL_table (wsV RL 7 RX4 yX4_table wsX4_table) := goodIn_app (goodIn_of _ (by decide +kernel)) ggL_table_X4_table
end
section
/-! The world as a map from places (counted from B on) to what lies there; rows over it. -/
abbrev kl_M : Type := Nat → Option va_E
abbrev kl_G : Type := va_G × (Nat → ClassId)
def kl_P (G : kl_G) (B : Nat) (w : kl_M) (H : Heap) : Prop := B ≤ H.size ∧ ∀ (i : Nat) (e : va_E), w i = some e → va_at G.1 vwCl (B + i, e) H
def kl_F (B : Nat) (H0 H : Heap) : Prop := H0.size ≤ H.size ∧ ∀ q : Nat, q < B → H[q]? = H0[q]?
def kl_S (G : kl_G) (B : Nat) (w : kl_M) (H0 H : Heap) (locs : List Loc) : Prop := kl_P G B w H ∧ kl_F B H0 H ∧ ∀ z ∈ locs, B ≤ z.base
def kl_T (c : Nat → ClassId) : List (ClassId × FieldType) := [(c 0, .int), (c 1, .boolean), (c 2, .long), (c 3, .object RX1), (c 4, .object RX3), (c 5, .object RX0), (c 6, .object RX2)]
/-- what else the tables say: casts that hold, casts that don't, arrays of the own classes -/
def kl_cp : List (String × String) := [("[I", "java/lang/Cloneable"), ("java/lang/IllegalArgumentException", "java/lang/IllegalArgumentException"), ("java/util/NoSuchElementException", "java/util/NoSuchElementException"), ("java/lang/IllegalStateException", "java/lang/IllegalStateException"), ("java/lang/IndexOutOfBoundsException", "java/lang/IndexOutOfBoundsException")]
def kl_np : List (String × String) := [("java/util/NoSuchElementException", "java/lang/IllegalArgumentException"), ("java/lang/IllegalStateException", "java/lang/IllegalArgumentException"), ("java/lang/IllegalStateException", "java/util/NoSuchElementException"), ("java/lang/IndexOutOfBoundsException", "java/lang/IllegalArgumentException")]
def kl_N (U : State) : Prop := (∀ q ∈ kl_cp, va_Nw (.castable q.1 q.2) U) ∧ (∀ q ∈ kl_np, va_Nc q.1 q.2 U) ∧ ∀ C ∈ [RX0, RX1, RX2, RX3], va_AO C U
theorem kl_Nc_moved {C T : String} {u U : State} (hvm : u.vm.Alike U.vm) (h : va_Nc C T u) : va_Nc C T U := by
  obtain ⟨c, t, h1, h2, h3⟩ := h
  exact ⟨c, t, by rw [hvm.findClass]; exact h1, by rw [hvm.findClass]; exact h2, by rw [hvm.assignable]; exact h3⟩
theorem kl_N.warm {s U : State} (hW : s.WarmedH U.vm) (h : kl_N s) : kl_N U := ⟨fun q hq => va_Nw.warmC hW (h.1 q hq), fun q hq => kl_Nc_moved hW.alike (h.2.1 q hq), fun C hC => va_AO.moved hW.alike (h.2.2 C hC)⟩
theorem kl_N.same {u U : State} (e : u.vm = U.vm) (h : kl_N u) : kl_N U := ⟨fun q hq => va_Nw.same rfl e (h.1 q hq), fun q hq => kl_Nc_moved (by rw [e]; exact Vm.Alike.refl _) (h.2.1 q hq), fun C hC => va_AO.moved (by rw [e]; exact Vm.Alike.refl _) (h.2.2 C hC)⟩
def kl_K (G : kl_G) (U : State) : Prop := va_K G.1 vwCl (kl_T G.2) U ∧ kl_N U
theorem kl_K.warm {G : kl_G} {s U : State} (hW : s.WarmedH U.vm) (h : kl_K G s) : kl_K G U := ⟨va_K.moved hW.alike h.1, h.2.warm hW⟩
theorem kl_K.same {G : kl_G} {u U : State} (e : u.vm = U.vm) (h : kl_K G u) : kl_K G U := ⟨va_K.moved (by rw [e]; exact Vm.Alike.refl _) h.1, h.2.same e⟩
/-- the statics that a throw reads -/
def kl_Z (B : Nat) (U : State) (H : Heap) : Prop := vx_Zq Bundle.tN "UNASSIGNED_STACK" Bundle.steD (fun q => B ≤ q) U H ∧ vx_Zq Bundle.tN "SUPPRESSED_SENTINEL" Bundle.listD (fun q => B ≤ q) U H
theorem kl_Z.moved {B : Nat} {u U : State} {H : Heap} (hvm : u.vm.Alike U.vm) (h : kl_Z B u H) : kl_Z B U H := ⟨h.1.moved hvm, h.2.moved hvm⟩
def kl_up (w : kl_M) (k : Nat) (e : va_E) : kl_M := fun j => if j = k then some e else w j
abbrev kl_aI (G : kl_G) (n : Nat) (f : Nat → Int32) : va_E := .inl (G.2 0, n, .inl f)
abbrev kl_aZ (G : kl_G) (n : Nat) (f : Nat → Int32) : va_E := .inl (G.2 1, n, .inl f)
abbrev kl_aL (G : kl_G) (n : Nat) (f : Nat → Int64) : va_E := .inl (G.2 2, n, .inr (.inl f))
abbrev kl_aR (G : kl_G) (k n : Nat) (f : Nat → Option Nat) : va_E := .inl (G.2 k, n, .inr (.inr (.inr (.inr f))))
theorem kl_up_self {w : kl_M} {k : Nat} {e : va_E} : kl_up w k e k = some e := by simp [kl_up]
theorem kl_up_ne {w : kl_M} {k j : Nat} {e : va_E} (h : j ≠ k) : kl_up w k e j = w j := by simp [kl_up, h]
theorem kl_F.rf {B : Nat} {H : Heap} : kl_F B H H := ⟨Nat.le_refl _, fun _ _ => rfl⟩
theorem kl_F.tr {B : Nat} {H0 H1 H2 : Heap} (h : kl_F B H0 H1) (h2 : kl_F B H1 H2) : kl_F B H0 H2 := ⟨Nat.le_trans h.1 h2.1, fun q hq => (h2.2 q hq).trans (h.2 q hq)⟩
theorem kl_Z.kept {B : Nat} {U : State} {H H1 : Heap} (hF : kl_F B H H1) (h : kl_Z B U H) : kl_Z B U H1 := ⟨h.1.kept (fun a _ hn => hF.2 a (Nat.not_le.mp hn)), h.2.kept (fun a _ hn => hF.2 a (Nat.not_le.mp hn))⟩
theorem kl_S.rf {G : kl_G} {B : Nat} {w : kl_M} {H : Heap} (h : kl_P G B w H) : kl_S G B w H H [] := ⟨h, kl_F.rf, fun _ h => by cases h⟩
theorem kl_S.one {G : kl_G} {B : Nat} {w : kl_M} {H0 H : Heap} {locs : List Loc} (h : kl_S G B w H0 H locs) {i : Nat} {e : va_E} (he : w i = some e) : va_P G.1 vwCl [(B + i, e)] H := by
  intro k q hk
  have hz : k < 1 := (List.getElem?_eq_some_iff.mp hk).1
  obtain rfl : k = 0 := by omega
  cases hk
  exact h.1.2 i e he
theorem kl_S.lt {G : kl_G} {B : Nat} {w : kl_M} {H0 H : Heap} {locs : List Loc} (h : kl_S G B w H0 H locs) {i : Nat} {e : va_E} (he : w i = some e) : B + i < H.size := (h.1.2 i e he).lt
theorem kl_P.put {G : kl_G} {B : Nat} {w : kl_M} {H H1 : Heap} (h : kl_P G B w H) {i : Nat} {e : va_E} (z : H1.size = H.size) (he : va_at G.1 vwCl (B + i, e) H1) (oq : ∀ q : Nat, q ≠ B + i → H1[q]? = H[q]?) : kl_P G B (kl_up w i e) H1 := by
  refine ⟨by rw [z]; exact h.1, fun j e2 hj => ?_⟩
  by_cases hji : j = i
  · subst hji
    rw [kl_up_self] at hj
    cases hj
    exact he
  · rw [kl_up_ne hji] at hj
    exact (h.2 j e2 hj).kept (oq (B + j) (by omega))
theorem kl_S.put {G : kl_G} {B : Nat} {w : kl_M} {H0 H H1 : Heap} {locs : List Loc} (h : kl_S G B w H0 H locs) {i k : Nat} {e : va_E} (z : H1.size = H.size) (he : va_at G.1 vwCl (B + i, e) H1) (oq : ∀ q : Nat, q ≠ B + i → H1[q]? = H[q]?) : kl_S G B (kl_up w i e) H0 H1 (locs ++ [⟨B + i, k⟩]) := by
  refine ⟨h.1.put z he oq, ⟨by rw [z]; exact h.2.1.1, fun q hq => (oq q (by omega)).trans (h.2.1.2 q hq)⟩, fun q hq => ?_⟩
  rcases List.mem_append.mp hq with hq | hq
  · exact h.2.2 q hq
  · rcases List.mem_singleton.mp hq with rfl
    exact Nat.le_add_right _ _
theorem kl_S.push {G : kl_G} {B : Nat} {w : kl_M} {H0 H H1 : Heap} {locs : List Loc} (h : kl_S G B w H0 H locs) {i : Nat} {e : va_E} (hi : H.size = B + i) (z : H1.size = H.size + 1) (he : va_at G.1 vwCl (B + i, e) H1) (oq : ∀ q : Nat, q < H.size → H1[q]? = H[q]?) : kl_S G B (kl_up w i e) H0 H1 locs := by
  refine ⟨⟨by have := h.1.1; omega, fun j e2 hj => ?_⟩, ⟨by have := h.2.1.1; omega, fun q hq => (oq q (by have := h.1.1; omega)).trans (h.2.1.2 q hq)⟩, h.2.2⟩
  by_cases hji : j = i
  · subst hji
    rw [kl_up_self] at hj
    cases hj
    exact he
  · rw [kl_up_ne hji] at hj
    exact (h.1.2 j e2 hj).kept (oq (B + j) (h.1.2 j e2 hj).lt)
theorem kl_S.trans {G : kl_G} {B : Nat} {w w1 : kl_M} {H0 H H1 : Heap} {locs L : List Loc} (h : kl_S G B w H0 H locs) (hP : kl_P G B w1 H1) (hF : kl_F B H H1) (hL : ∀ z ∈ L, B ≤ z.base) : kl_S G B w1 H0 H1 (locs ++ L) :=
  ⟨hP, h.2.1.tr hF, fun q hq => (List.mem_append.mp hq).elim (h.2.2 q) (hL q)⟩
section KLR
variable {p : Program} {l : Launch} {e : Env} {R : Room} {s : State} {m : MethodId} {args : Array Value} {below : List Frame} {meth : Method} {c : Code} {H : Heap} {locs : List Loc} {cells slots : Nat} {Q : State → Prop}
variable {cc : ByteArray} {pc : Nat} {ls : Array Slot} {rest : List Value} {G : kl_G} {B : Nat} {w : kl_M} {H0 : Heap} {i : Nat}
theorem kl_get (hexec : p.tables.exec = Jvm.exec) (hb : c.code = cc) {own2 ref C : String} {T : u_T} {N ci index : Nat} {Ts : List Cond} (hts : ∀ w ∈ Ts, w.before args s = true) (hin : ∀ w ∈ u_ws C T N, w ∈ Ts) (hown2 : s.vm.findClass own2 = some m.cls) (hK : kl_K G s) (hP : kl_S G B w H0 H locs) {fs : List Value} (he : w i = some (.inr (ci, fs))) (hc : vwCl[ci]? = some (C, T, N)) (k : Nat) (hk : k < N) (hlink : (Cond.fieldLink own2 index ref (T k).2.1 (T k).2.2.1).before args s = true) (hsame : ∀ x, s.fieldFound? (T k).1 (T k).2.1 (T k).2.2.1 = some x → s.fieldFound? ref (T k).2.1 (T k).2.2.1 = some x) {v : Value} (hv : fs[k]? = some v) (hdg : decode cc pc = .ok (.getfield index, 3))
    (kk : W p l e R s m args below meth c H locs cells slots Q (F0 m (pc + 3) ls (v :: rest))) : W p l e R s m args below meth c H locs cells slots Q (F0 m pc ls (.ref (B + i) :: rest)) :=
  va_get hexec hb hts hin hown2 hK.1 (hP.one he) 0 rfl hc k hk hlink hsame hv hdg kk
theorem kl_put (hexec : p.tables.exec = Jvm.exec) (hb : c.code = cc) {own ref C : String} {T : u_T} {N ci index : Nat} {Ts : List Cond} (hts : ∀ w ∈ Ts, w.before args s = true) (hin : ∀ w ∈ u_ws C T N, w ∈ Ts) (ty0 : Nat → FieldType) (hty : ∀ k, k < N → parseFieldDescriptor (T k).2.2.1 = some (ty0 k)) (hnm : ∀ a, a < N → ∀ b, b < N → a ≠ b → (T a).2.1 ≠ (T b).2.1) (hown : s.vm.findClass own = some m.cls) (hK : kl_K G s) (hP : kl_S G B w H0 H locs) {fs : List Value} (he : w i = some (.inr (ci, fs))) (hc : vwCl[ci]? = some (C, T, N)) (k : Nat) (hk : k < N) (hlink : (Cond.fieldLink own index ref (T k).2.1 (T k).2.2.1).before args s = true) (hsame : ∀ x, s.fieldFound? (T k).1 (T k).2.1 (T k).2.2.1 = some x → s.fieldFound? ref (T k).2.1 (T k).2.2.1 = some x) (hfin : (T k).2.2.2 = false) {ty : FieldType} {v : Value} (hd : parseFieldDescriptor (T k).2.2.1 = some ty) (hn : narrow ty v = v) (hfit : fits ty v = true) (hl : k < fs.length)
    (hdg : decode cc pc = .ok (.putfield index, 3)) (kk : ∀ (w1 : kl_M) (H1 : Heap) (locs1 : List Loc), w1 i = some (.inr (ci, fs.set k v)) → (∀ j, j ≠ i → w1 j = w j) → H1.size = H.size → kl_S G B w1 H0 H1 locs1 → W p l e R s m args below meth c H1 locs1 cells slots Q (F0 m (pc + 3) ls rest)) : W p l e R s m args below meth c H locs cells slots Q (F0 m pc ls (v :: .ref (B + i) :: rest)) := by
  have hap := va_apart (own := own) hts hin ty0 hty hnm hK.1 hc
  obtain ⟨r, h1, cell, q1, q2, q3, q4⟩ := hP.1.2 i _ he
  have hr : r = (C, T, N) := Option.some.inj (h1.symm.trans hc)
  subst hr
  obtain ⟨hS, hfc, kC, hkC, hkind⟩ := hK.1.1 ci _ hc
  obtain ⟨cf, kf, fi, f, hi, hsl⟩ := hS k hk
  have hlay := hts _ (hin _ (u_in_lay hk))
  unfold u_lay at hlay
  rw [if_neg (by rw [hfin]; decide)] at hlay
  have hst := (u_facts hfc hkC (u_lays hts hin hk) hi).1
  have h6 := u_store hfc hkC hkind hlay hi hd hn hfit
  refine W.putK hexec hb (f := f) ⟨hown, hlink, ⟨_, _, _, hsame _ hi⟩, hst⟩ (by rw [q2]; exact h6) q1 q3 (by rw [hsl]; exact k2_hasslot (q4 k hk)) rfl rfl hdg fun H' e1 e2 e3 => ?_
  rw [hsl] at e1 ⊢
  exact kk _ H' _ kl_up_self (fun j hj => kl_up_ne hj) e2 (hP.put e2 ⟨_, hc, t_OB.to (V := updV (vp_V fs) k v) ⟨_, e1, q2, q3, t_set q4 hap hk v⟩ (fun j _ => vp_updV_set hl v j)⟩ e3)
theorem kl_putF (hexec : p.tables.exec = Jvm.exec) (hb : c.code = cc) {own ref C : String} {T : u_T} {N ci index : Nat} {Ts : List Cond} (hts : ∀ w ∈ Ts, w.before args s = true) (hin : ∀ w ∈ u_ws C T N, w ∈ Ts) (ty0 : Nat → FieldType) (hty : ∀ k, k < N → parseFieldDescriptor (T k).2.2.1 = some (ty0 k)) (hnm : ∀ a, a < N → ∀ b, b < N → a ≠ b → (T a).2.1 ≠ (T b).2.1) (hown : s.vm.findClass own = some m.cls) (hK : kl_K G s) (hP : kl_S G B w H0 H locs) {fs : List Value} (he : w i = some (.inr (ci, fs))) (hc : vwCl[ci]? = some (C, T, N)) (k : Nat) (hk : k < N) (hlink : (Cond.fieldLink own index ref (T k).2.1 (T k).2.2.1).before args s = true) (hsame : ∀ x, s.fieldFound? (T k).1 (T k).2.1 (T k).2.2.1 = some x → s.fieldFound? ref (T k).2.1 (T k).2.2.1 = some x) (hfin : (T k).2.2.2 = true) (hin2 : meth.name = "<init>") (hdecl : (T k).1 = own) {ty : FieldType} {v : Value} (hd : parseFieldDescriptor (T k).2.2.1 = some ty) (hn : narrow ty v = v) (hfit : fits ty v = true) (hl : k < fs.length)
    (hdg : decode cc pc = .ok (.putfield index, 3)) (kk : ∀ (w1 : kl_M) (H1 : Heap) (locs1 : List Loc), w1 i = some (.inr (ci, fs.set k v)) → (∀ j, j ≠ i → w1 j = w j) → H1.size = H.size → kl_S G B w1 H0 H1 locs1 → W p l e R s m args below meth c H1 locs1 cells slots Q (F0 m (pc + 3) ls rest)) : W p l e R s m args below meth c H locs cells slots Q (F0 m pc ls (v :: .ref (B + i) :: rest)) := by
  have hap := va_apart (own := own) hts hin ty0 hty hnm hK.1 hc
  obtain ⟨r, h1, cell, q1, q2, q3, q4⟩ := hP.1.2 i _ he
  have hr : r = (C, T, N) := Option.some.inj (h1.symm.trans hc)
  subst hr
  obtain ⟨hS, hfc, kC, hkC, hkind⟩ := hK.1.1 ci _ hc
  obtain ⟨cf, kf, fi, f, hi, hsl⟩ := hS k hk
  have hlay := hts _ (hin _ (u_in_lay hk))
  unfold u_lay at hlay
  rw [if_pos hfin] at hlay
  have hst := (u_facts hfc hkC (u_lays hts hin hk) hi).1
  have hcf : m.cls = cf := by
    obtain ⟨_, _, c', _, _, _, -, -, hf', -, -, -, hown2, -⟩ := Cond.laysFinal_spec hlay
    have e1 : c' = cf := by have := hi.symm.trans hf'; simp at this; exact this.1.symm
    rw [hdecl] at hown2
    rw [← e1]; exact Option.some.inj (hown.symm.trans hown2)
  have h6 := u_fits hfc hkC hkind (Or.inr hlay) hi hd hn hfit
  refine W.putFinK hexec hb hown hlink (hsame _ hi) hst hcf hin2 (by rw [q2]; exact h6) q1 q3 (by rw [hsl]; exact k2_hasslot (q4 k hk)) rfl rfl hdg fun H' e1 e2 e3 => ?_
  rw [hsl] at e1 ⊢
  exact kk _ H' _ kl_up_self (fun j hj => kl_up_ne hj) e2 (hP.put e2 ⟨_, hc, t_OB.to (V := updV (vp_V fs) k v) ⟨_, e1, q2, q3, t_set q4 hap hk v⟩ (fun j _ => vp_updV_set hl v j)⟩ e3)
theorem kl_ix {j n : Nat} (h : j < n) (hn : n < 2 ^ 31) : vp_in (nI j) n := vp_in_nI h hn
theorem kl_cl {j n : Nat} (h : j < n) (hn : n < 2 ^ 31) : (nI j).toNatClampNeg = j := nI_clamp (Nat.lt_trans h hn)
theorem kl_iald (hexec : p.tables.exec = Jvm.exec) (hb : c.code = cc) (hK : kl_K G s) (hP : kl_S G B w H0 H locs) {n : Nat} {f : Nat → Int32} (he : w i = some (kl_aI G n f)) {j : Nat} (hj : j < n) (hn : n < 2 ^ 31) (hdg : decode cc pc = .ok (.iaload, 1))
    (kk : W p l e R s m args below meth c H locs cells slots Q (F0 m (pc + 1) ls (.int (f j) :: rest))) : W p l e R s m args below meth c H locs cells slots Q (F0 m pc ls (.int (nI j) :: .ref (B + i) :: rest)) := by
  refine va_iald hexec hb hK.1 (hP.one he) 0 0 rfl rfl (kl_ix hj hn) hdg ?_
  rw [kl_cl hj hn]
  exact kk
theorem kl_zald (hexec : p.tables.exec = Jvm.exec) (hb : c.code = cc) (hK : kl_K G s) (hP : kl_S G B w H0 H locs) {n : Nat} {f : Nat → Int32} (he : w i = some (kl_aZ G n f)) {j : Nat} (hj : j < n) (hn : n < 2 ^ 31) (hdg : decode cc pc = .ok (.baload, 1))
    (kk : W p l e R s m args below meth c H locs cells slots Q (F0 m (pc + 1) ls (.int (f j) :: rest))) : W p l e R s m args below meth c H locs cells slots Q (F0 m pc ls (.int (nI j) :: .ref (B + i) :: rest)) := by
  refine va_zald hexec hb hK.1 (hP.one he) 0 1 rfl rfl (kl_ix hj hn) hdg ?_
  rw [kl_cl hj hn]
  exact kk
theorem kl_lald (hexec : p.tables.exec = Jvm.exec) (hb : c.code = cc) (hK : kl_K G s) (hP : kl_S G B w H0 H locs) {n : Nat} {f : Nat → Int64} (he : w i = some (kl_aL G n f)) {j : Nat} (hj : j < n) (hn : n < 2 ^ 31) (hdg : decode cc pc = .ok (.laload, 1))
    (kk : W p l e R s m args below meth c H locs cells slots Q (F0 m (pc + 1) ls (.long (f j) :: rest))) : W p l e R s m args below meth c H locs cells slots Q (F0 m pc ls (.int (nI j) :: .ref (B + i) :: rest)) := by
  refine va_lald hexec hb hK.1 (hP.one he) 0 2 rfl rfl (kl_ix hj hn) hdg ?_
  rw [kl_cl hj hn]
  exact kk
theorem kl_aald (hexec : p.tables.exec = Jvm.exec) (hb : c.code = cc) (hK : kl_K G s) (hP : kl_S G B w H0 H locs) (t0 : Nat) {C : String} {n k0 : Nat} {f : Nat → Option Nat} (he : w i = some (kl_aR G k0 n f)) (ht : (kl_T G.2)[t0]? = some (G.2 k0, .object C)) {j : Nat} (hj : j < n) (hn : n < 2 ^ 31) {a : Nat} (hf : f j = some a) (hdg : decode cc pc = .ok (.aaload, 1))
    (kk : W p l e R s m args below meth c H locs cells slots Q (F0 m (pc + 1) ls (.ref a :: rest))) : W p l e R s m args below meth c H locs cells slots Q (F0 m pc ls (.int (nI j) :: .ref (B + i) :: rest)) := by
  refine va_aldq hexec hb hK.1 (hP.one he) 0 t0 rfl ht (kl_ix hj hn) hdg ?_
  rw [kl_cl hj hn, hf]
  exact kk
theorem kl_alen (hexec : p.tables.exec = Jvm.exec) (hb : c.code = cc) (hK : kl_K G s) (hP : kl_S G B w H0 H locs) (t0 : Nat) {k0 : Nat} {x : vp_A} {ty : FieldType} (he : w i = some (.inl (G.2 k0, x))) (ht : (kl_T G.2)[t0]? = some (G.2 k0, ty)) (hdg : decode cc pc = .ok (.arraylength, 1))
    (kk : W p l e R s m args below meth c H locs cells slots Q (F0 m (pc + 1) ls (.int (nI x.1) :: rest))) : W p l e R s m args below meth c H locs cells slots Q (F0 m pc ls (.ref (B + i) :: rest)) :=
  va_alen hexec hb hK.1 (hP.one he) 0 t0 rfl ht rfl hdg kk
theorem kl_iast (hexec : p.tables.exec = Jvm.exec) (hb : c.code = cc) (hK : kl_K G s) (hP : kl_S G B w H0 H locs) {n : Nat} {f : Nat → Int32} (he : w i = some (kl_aI G n f)) {j : Nat} (hj : j < n) (hn : n < 2 ^ 31) {x : Int32} (hdg : decode cc pc = .ok (.iastore, 1))
    (kk : ∀ (w1 : kl_M) (H1 : Heap) (locs1 : List Loc), w1 i = some (kl_aI G n (upd f j x)) → (∀ j, j ≠ i → w1 j = w j) → H1.size = H.size → kl_S G B w1 H0 H1 locs1 → W p l e R s m args below meth c H1 locs1 cells slots Q (F0 m (pc + 1) ls rest)) : W p l e R s m args below meth c H locs cells slots Q (F0 m pc ls (.int x :: .int (nI j) :: .ref (B + i) :: rest)) := by
  have hin : vp_in (nI j) n := kl_ix hj hn
  refine W.iast hexec hb (hP.1.2 i _ he) ((hK.1.2 0 (G.2 0, .int) rfl).1 n (fun j => .int (f j))) (fun q => by cases q) (by show ¬ (nI j < 0 ∨ (arrV _ _ _).slots.size ≤ _); rw [arrV_size]; exact hin) rfl rfl hdg fun H1 e z oq => ?_
  refine kk _ H1 _ kl_up_self (fun j hj => kl_up_ne hj) z (hP.put z ?_ oq)
  show H1[B + i]? = some (vp_cell _ _)
  rw [e]
  rw [vp_cell_i, vp_cell_i, arrV_store, kl_cl hj hn]
  congr 2
  funext q
  by_cases hq : q = j
  · subst hq
    simp [updV, upd]
  · simp [updV, upd, hq]
theorem kl_zast (hexec : p.tables.exec = Jvm.exec) (hb : c.code = cc) (hK : kl_K G s) (hP : kl_S G B w H0 H locs) {n : Nat} {f : Nat → Int32} (he : w i = some (kl_aZ G n f)) {j : Nat} (hj : j < n) (hn : n < 2 ^ 31) {x y : Int32} (hx : vp_nar .boolean x = y) (hdg : decode cc pc = .ok (.bastore, 1))
    (kk : ∀ (w1 : kl_M) (H1 : Heap) (locs1 : List Loc), w1 i = some (kl_aZ G n (upd f j y)) → (∀ j, j ≠ i → w1 j = w j) → H1.size = H.size → kl_S G B w1 H0 H1 locs1 → W p l e R s m args below meth c H1 locs1 cells slots Q (F0 m (pc + 1) ls rest)) : W p l e R s m args below meth c H locs cells slots Q (F0 m pc ls (.int x :: .int (nI j) :: .ref (B + i) :: rest)) := by
  have hin : vp_in (nI j) n := kl_ix hj hn
  subst hx
  refine W.zast hexec hb (hP.1.2 i _ he) ((hK.1.2 1 (G.2 1, .boolean) rfl).1 n (fun j => .int (f j))) (fun q => by cases q) (by show ¬ (nI j < 0 ∨ (arrV _ _ _).slots.size ≤ _); rw [arrV_size]; exact hin) rfl rfl hdg fun H1 e z oq => ?_
  refine kk _ H1 _ kl_up_self (fun j hj => kl_up_ne hj) z (hP.put z ?_ oq)
  show H1[B + i]? = some (vp_cell _ _)
  rw [e]
  rw [vp_cell_i, vp_cell_i, arrV_store, kl_cl hj hn]
  congr 2
  funext q
  by_cases hq : q = j
  · subst hq
    simp [updV, upd, vp_nar]
    try rfl
  · simp [updV, upd, hq]
theorem kl_last (hexec : p.tables.exec = Jvm.exec) (hb : c.code = cc) (hK : kl_K G s) (hP : kl_S G B w H0 H locs) {n : Nat} {f : Nat → Int64} (he : w i = some (kl_aL G n f)) {j : Nat} (hj : j < n) (hn : n < 2 ^ 31) {x : Int64} (hdg : decode cc pc = .ok (.lastore, 1))
    (kk : ∀ (w1 : kl_M) (H1 : Heap) (locs1 : List Loc), w1 i = some (kl_aL G n (vp_updL f j x)) → (∀ j, j ≠ i → w1 j = w j) → H1.size = H.size → kl_S G B w1 H0 H1 locs1 → W p l e R s m args below meth c H1 locs1 cells slots Q (F0 m (pc + 1) ls rest)) : W p l e R s m args below meth c H locs cells slots Q (F0 m pc ls (.long x :: .int (nI j) :: .ref (B + i) :: rest)) := by
  have hin : vp_in (nI j) n := kl_ix hj hn
  refine W.last hexec hb (hP.1.2 i _ he) ((hK.1.2 2 (G.2 2, .long) rfl).1 n (fun j => .long (f j))) (fun q => by cases q) (by show ¬ (nI j < 0 ∨ (arrV _ _ _).slots.size ≤ _); rw [arrV_size]; exact hin) rfl rfl hdg fun H1 e z oq => ?_
  refine kk _ H1 _ kl_up_self (fun j hj => kl_up_ne hj) z (hP.put z ?_ oq)
  show H1[B + i]? = some (vp_cell _ _)
  rw [e]
  rw [vp_cell_l, vp_cell_l, arrV_store, kl_cl hj hn]
  congr 2
  funext q
  by_cases hq : q = j
  · subst hq
    simp [updV, vp_updL]
  · simp [updV, vp_updL, hq]
theorem kl_aast (hexec : p.tables.exec = Jvm.exec) (hb : c.code = cc) (hK : kl_K G s) (hP : kl_S G B w H0 H locs) (t0 ci : Nat) {r : vw_C} {n k0 v : Nat} {vs : List Value} {f : Nat → Option Nat} (he : w i = some (kl_aR G k0 n f)) (ht : (kl_T G.2)[t0]? = some (G.2 k0, .object r.1)) (hv : w v = some (.inr (ci, vs))) (hc : vwCl[ci]? = some r) {j : Nat} (hj : j < n) (hn : n < 2 ^ 31) (hdg : decode cc pc = .ok (.aastore, 1))
    (kk : ∀ (w1 : kl_M) (H1 : Heap) (locs1 : List Loc), w1 i = some (kl_aR G k0 n (va_up f j (some (B + v)))) → (∀ j, j ≠ i → w1 j = w j) → H1.size = H.size → kl_S G B w1 H0 H1 locs1 → W p l e R s m args below meth c H1 locs1 cells slots Q (F0 m (pc + 1) ls rest)) : W p l e R s m args below meth c H locs cells slots Q (F0 m pc ls (.ref (B + v) :: .int (nI j) :: .ref (B + i) :: rest)) := by
  have hin : vp_in (nI j) n := kl_ix hj hn
  have hlt : (nI j).toNatClampNeg < n := Nat.not_le.mp fun q => hin (Or.inr q)
  have h0 : ¬ nI j < 0 := fun q => hin (Or.inl q)
  obtain ⟨r', hr', cellV, g1, g2, g3, -⟩ := hP.1.2 v _ hv
  have hcls := (hK.1.1 ci r hc).2
  obtain ⟨kA, comp, k1, k2, k3, -⟩ := (hK.1.2 t0 _ ht).2
  have hcomp : comp = G.1.1 ci := Option.some.inj (k3.symm.trans hcls.1)
  subst hcomp
  obtain ⟨kC, hkC, -⟩ := hcls.2
  refine W.aast hexec hb (hP.1.2 i _ he) (fun q h => by cases h) (fun h => by cases h) k1 k2 rfl hkC ⟨h0, by show _ < (arrV _ _ _).slots.size; rw [arrV_size]; exact hlt⟩ g1 (fun q h => by rw [g3] at h; cases h) (by rw [g2]; exact hkC) (by rw [g2]; exact va_assign hcls) rfl rfl hdg fun H1 e z oq => ?_
  refine kk _ H1 _ kl_up_self (fun j hj => kl_up_ne hj) z (hP.put z ?_ oq)
  show H1[B + i]? = some (vp_cell _ _)
  rw [e]
  rw [vp_cell_q, vp_cell_q, arrV_store, kl_cl hj hn]
  congr 2
  funext q
  by_cases hq : q = j
  · subst hq
    simp [updV, va_up, va_rf]
  · simp [updV, va_up, hq]
theorem kl_new (hexec : p.tables.exec = Jvm.exec) (hb : c.code = cc) {own C : String} {T : u_T} {N ci index : Nat} {Ts : List Cond} (hts : ∀ w ∈ Ts, w.before args s = true) (hin : ∀ w ∈ u_ws C T N, w ∈ Ts) (ty : Nat → FieldType) (hty : ∀ k, k < N → parseFieldDescriptor (T k).2.2.1 = some (ty k)) (hown : s.vm.findClass own = some m.cls) (hcl : (Cond.classLink own index C).before args s = true) (hinst : (Cond.instantiable C N).before args s = true) (hini : (Cond.initialized C).before args s = true)
    (hK : kl_K G s) (hP : kl_S G B w H0 H locs) (hc : vwCl[ci]? = some (C, T, N)) {fs : List Value} (hfs : ∀ j, j < N → defaultValue (ty j) = vp_V fs j) (hcells : cells + 1 ≤ R.cells) (hslots : slots + N ≤ R.slots) (hdg : decode cc pc = .ok (.new index, 3))
    (kk : ∀ (q : Nat) (w1 : kl_M) (H1 : Heap), H.size = B + q → w1 q = some (.inr (ci, fs)) → (∀ j, j ≠ q → w1 j = w j) → H1.size = H.size + 1 → kl_S G B w1 H0 H1 locs →
      W p l e R s m args below meth c H1 locs (cells + 1) (slots + N) Q (F0 m (pc + 3) ls (.ref (B + q) :: rest))) : W p l e R s m args below meth c H locs cells slots Q (F0 m pc ls rest) := by
  have hKn := hK.1.1 ci _ hc
  obtain ⟨q, hq⟩ : ∃ q, H.size = B + q := ⟨H.size - B, by have := hP.1.1; omega⟩
  refine W.newcK hexec hb hown hcl hinst hini rfl hdg hcells hslots hKn.2.1 hq fun H1 kC hkC e1 z1 o1 => ?_
  exact kk q _ H1 hq kl_up_self (fun j hj => kl_up_ne hj) (by omega) (hP.push hq (by omega) ⟨_, hc, (u_born ty hts hin hKn hkC e1 hty).to hfs⟩ (fun x hx => o1 x (by omega)))
theorem kl_newI (hexec : p.tables.exec = Jvm.exec) (hb : c.code = cc) (harr : (Cond.arrayClass .int).before args s = true) (hK : kl_K G s) (hP : kl_S G B w H0 H locs) {n : Nat} (hn : n < 2 ^ 20) (hcells : cells + 1 ≤ R.cells) (hslots : slots + n ≤ R.slots) (hdg : decode cc pc = .ok (.newarray .int, 2))
    (kk : ∀ (q : Nat) (w1 : kl_M) (H1 : Heap), H.size = B + q → w1 q = some (kl_aI G n (fun _ => 0)) → (∀ j, j ≠ q → w1 j = w j) → H1.size = H.size + 1 → kl_S G B w1 H0 H1 locs →
      W p l e R s m args below meth c H1 locs (cells + 1) (slots + n) Q (F0 m (pc + 2) ls (.ref (B + q) :: rest))) : W p l e R s m args below meth c H locs cells slots Q (F0 m pc ls (.int (nI n) :: rest)) := by
  obtain ⟨q, hq⟩ : ∃ q, H.size = B + q := ⟨H.size - B, by have := hP.1.1; omega⟩
  refine va_newaK (atype := .int) hexec hb harr rfl hdg rfl (nI_pos (by omega)) (nI_clamp (by omega)) (by show n * 4 ≤ 536870912; omega) hcells hslots hq fun H1 cA e1 z1 o1 hAr hNm => ?_
  have hcA : cA = G.2 0 := Option.some.inj (hNm.symm.trans (hK.1.2 0 (G.2 0, .int) rfl).2)
  subst hcA
  exact kk q _ H1 hq kl_up_self (fun j hj => kl_up_ne hj) (by omega) (hP.push hq (by omega) e1 (fun x hx => o1 x (by omega)))
theorem kl_newZ (hexec : p.tables.exec = Jvm.exec) (hb : c.code = cc) (harr : (Cond.arrayClass .boolean).before args s = true) (hK : kl_K G s) (hP : kl_S G B w H0 H locs) {n : Nat} (hn : n < 2 ^ 20) (hcells : cells + 1 ≤ R.cells) (hslots : slots + n ≤ R.slots) (hdg : decode cc pc = .ok (.newarray .boolean, 2))
    (kk : ∀ (q : Nat) (w1 : kl_M) (H1 : Heap), H.size = B + q → w1 q = some (kl_aZ G n (fun _ => 0)) → (∀ j, j ≠ q → w1 j = w j) → H1.size = H.size + 1 → kl_S G B w1 H0 H1 locs →
      W p l e R s m args below meth c H1 locs (cells + 1) (slots + n) Q (F0 m (pc + 2) ls (.ref (B + q) :: rest))) : W p l e R s m args below meth c H locs cells slots Q (F0 m pc ls (.int (nI n) :: rest)) := by
  obtain ⟨q, hq⟩ : ∃ q, H.size = B + q := ⟨H.size - B, by have := hP.1.1; omega⟩
  refine va_newaK (atype := .boolean) hexec hb harr rfl hdg rfl (nI_pos (by omega)) (nI_clamp (by omega)) (by show n * 1 ≤ 536870912; omega) hcells hslots hq fun H1 cA e1 z1 o1 hAr hNm => ?_
  have hcA : cA = G.2 1 := Option.some.inj (hNm.symm.trans (hK.1.2 1 (G.2 1, .boolean) rfl).2)
  subst hcA
  exact kk q _ H1 hq kl_up_self (fun j hj => kl_up_ne hj) (by omega) (hP.push hq (by omega) e1 (fun x hx => o1 x (by omega)))
theorem kl_newL (hexec : p.tables.exec = Jvm.exec) (hb : c.code = cc) (harr : (Cond.arrayClass .long).before args s = true) (hK : kl_K G s) (hP : kl_S G B w H0 H locs) {n : Nat} (hn : n < 2 ^ 20) (hcells : cells + 1 ≤ R.cells) (hslots : slots + n ≤ R.slots) (hdg : decode cc pc = .ok (.newarray .long, 2))
    (kk : ∀ (q : Nat) (w1 : kl_M) (H1 : Heap), H.size = B + q → w1 q = some (kl_aL G n (fun _ => 0)) → (∀ j, j ≠ q → w1 j = w j) → H1.size = H.size + 1 → kl_S G B w1 H0 H1 locs →
      W p l e R s m args below meth c H1 locs (cells + 1) (slots + n) Q (F0 m (pc + 2) ls (.ref (B + q) :: rest))) : W p l e R s m args below meth c H locs cells slots Q (F0 m pc ls (.int (nI n) :: rest)) := by
  obtain ⟨q, hq⟩ : ∃ q, H.size = B + q := ⟨H.size - B, by have := hP.1.1; omega⟩
  refine va_newaK (atype := .long) hexec hb harr rfl hdg rfl (nI_pos (by omega)) (nI_clamp (by omega)) (by show n * 8 ≤ 536870912; omega) hcells hslots hq fun H1 cA e1 z1 o1 hAr hNm => ?_
  have hcA : cA = G.2 2 := Option.some.inj (hNm.symm.trans (hK.1.2 2 (G.2 2, .long) rfl).2)
  subst hcA
  exact kk q _ H1 hq kl_up_self (fun j hj => kl_up_ne hj) (by omega) (hP.push hq (by omega) e1 (fun x hx => o1 x (by omega)))
theorem kl_newq (hexec : p.tables.exec = Jvm.exec) (hb : c.code = cc) {own C : String} {index : Nat} (hown : s.vm.findClass own = some m.cls) (hclink : (Cond.classLink own index C).before args s = true) (hover : (Cond.arrayOver (.object C)).before args s = true) (hK : kl_K G s) (hP : kl_S G B w H0 H locs) (t0 k0 : Nat) (ht : (kl_T G.2)[t0]? = some (G.2 k0, .object C)) {n : Nat} (hn : n < 2 ^ 20) (hcells : cells + 1 ≤ R.cells) (hslots : slots + n ≤ R.slots) (hdg : decode cc pc = .ok (.anewarray index, 3))
    (kk : ∀ (q : Nat) (w1 : kl_M) (H1 : Heap), H.size = B + q → w1 q = some (kl_aR G k0 n (fun _ => none)) → (∀ j, j ≠ q → w1 j = w j) → H1.size = H.size + 1 → kl_S G B w1 H0 H1 locs →
      W p l e R s m args below meth c H1 locs (cells + 1) (slots + n) Q (F0 m (pc + 3) ls (.ref (B + q) :: rest))) : W p l e R s m args below meth c H locs cells slots Q (F0 m pc ls (.int (nI n) :: rest)) := by
  obtain ⟨q, hq⟩ : ∃ q, H.size = B + q := ⟨H.size - B, by have := hP.1.1; omega⟩
  have hcl : (nI n).toNatClampNeg = n := nI_clamp (by omega)
  refine W.anew hexec hb hown hclink hover rfl hdg rfl (nI_pos (by omega)) (by rw [hcl]; omega) hcells (by rw [hcl]; exact hslots) fun cA kA comp f1 f2 f3 f4 => ?_
  obtain ⟨kA', comp', -, -, -, g4⟩ := (hK.1.2 t0 _ ht).2
  have hcA : cA = G.2 k0 := Option.some.inj (f1.symm.trans g4)
  subst hcA
  rw [hcl, hq]
  generalize hH1 : H.push ({ cls := G.2 k0, slots := Array.replicate n .null, vm := .none } : Cell) = H1
  have z1 : H1.size = H.size + 1 := by rw [← hH1, Array.size_push]
  have e1 : H1[B + q]? = some (arrV (G.2 k0) n (fun _ => .null)) := by rw [← hH1, ← hq, Array.getElem?_push_size, ← arrV_new]
  have o1 : ∀ q : Nat, q < H.size → H1[q]? = H[q]? := fun q hq => by rw [← hH1, Array.getElem?_push, if_neg (Nat.ne_of_lt hq)]
  exact kk q _ H1 hq kl_up_self (fun j hj => kl_up_ne hj) z1 (hP.push hq z1 e1 o1)
end KLR
end
section
/-! Contracts over the map, and their calls. -/
def kl_Pc (G : kl_G) (B : Nat) (w : kl_M) (av : List Value) : Array Value → State → Prop := fun v U => v = av.toArray ∧ kl_P G B w U.heap ∧ kl_K G U
def kl_Qi (G : kl_G) (B : Nat) (post : Int32 → kl_M → Prop) : Array Value → State → Outcome → State → Prop := fun _ st oc t => (∃ (r : Int32) (w1 : kl_M), oc = .returned (some (.int r)) ∧ post r w1 ∧ kl_P G B w1 t.heap) ∧ kl_F B st.heap t.heap
def kl_Qv (G : kl_G) (B : Nat) (post : kl_M → Prop) : Array Value → State → Outcome → State → Prop := fun _ st oc t => (∃ (w1 : kl_M), oc = .returned none ∧ post w1 ∧ kl_P G B w1 t.heap) ∧ kl_F B st.heap t.heap
def kl_Qr (G : kl_G) (B : Nat) (post : Nat → kl_M → Prop) : Array Value → State → Outcome → State → Prop := fun _ st oc t => (∃ (r : Nat) (w1 : kl_M), oc = .returned (some (.ref (B + r))) ∧ post r w1 ∧ kl_P G B w1 t.heap) ∧ kl_F B st.heap t.heap
/-- the same, with the heap's growth told -/
def kl_Qz (G : kl_G) (B d : Nat) (post : kl_M → Prop) : Array Value → State → Outcome → State → Prop := fun _ st oc t => (∃ (w1 : kl_M), oc = .returned none ∧ post w1 ∧ kl_P G B w1 t.heap ∧ t.heap.size = st.heap.size + d) ∧ kl_F B st.heap t.heap
def kl_Pz (G : kl_G) (B z : Nat) (w : kl_M) (av : List Value) : Array Value → State → Prop := fun v U => v = av.toArray ∧ U.heap.size = z ∧ kl_P G B w U.heap ∧ kl_K G U
abbrev kl_fr (B : Nat) : Addr → Prop := fun q => B ≤ q
def kl_X (G : kl_G) (B : Nat) (px : String → kl_M → Prop) : String → State → State → Prop := fun E st t => (∃ w1 : kl_M, px E w1 ∧ kl_P G B w1 t.heap) ∧ kl_F B st.heap t.heap
theorem kl_blind {G : kl_G} {B : Nat} {w : kl_M} {av : List Value} : FrameBlind (kl_Pc G B w av) := fun a U g mk q => ⟨q.1, q.2.1, kl_K.same (U := U.calling g mk a) rfl q.2.2⟩
theorem kl_blindz {G : kl_G} {B z : Nat} {w : kl_M} {av : List Value} : FrameBlind (kl_Pz G B z w av) := fun a U g mk q => ⟨q.1, q.2.1, q.2.2.1, kl_K.same (U := U.calling g mk a) rfl q.2.2.2⟩
/-- a truth value -/
def kl_b (r : Int32) (P : Prop) : Prop := (r = nI 1 ∧ P) ∨ (r = nI 0 ∧ ¬ P)
theorem kl_b.z {r : Int32} {P : Prop} (h : kl_b r P) : r = 0 ↔ ¬ P := by
  rcases h with ⟨rfl, h⟩ | ⟨rfl, h⟩
  · exact ⟨fun q => absurd q (by decide), fun q => absurd h q⟩
  · exact ⟨fun _ => h, fun _ => by decide⟩
theorem kl_b.t {P : Prop} (h : P) : kl_b (nI 1) P := Or.inl ⟨rfl, h⟩
theorem kl_b.f {P : Prop} (h : ¬ P) : kl_b (nI 0) P := Or.inr ⟨rfl, h⟩
theorem kl_b.iff {r : Int32} {P P2 : Prop} (h : kl_b r P) (e : P ↔ P2) : kl_b r P2 := by
  rcases h with ⟨h1, h⟩ | ⟨h1, h⟩
  · exact Or.inl ⟨h1, e.mp h⟩
  · exact Or.inr ⟨h1, fun q => h (e.mpr q)⟩
theorem kl_b.nar {r : Int32} {P : Prop} (h : kl_b r P) : narrow .boolean (.int r) = .int r := by
  rcases h with ⟨rfl, -⟩ | ⟨rfl, -⟩ <;> decide
theorem kl_b.vnar {r : Int32} {P : Prop} (h : kl_b r P) : vp_nar .boolean r = r := by
  rcases h with ⟨rfl, -⟩ | ⟨rfl, -⟩ <;> decide
section KLC
variable {p : Program} {l : Launch} {e : Env} {R : Room} {s : State} {m : MethodId} {args : Array Value} {below : List Frame} {meth : Method} {c : Code} {H : Heap} {locs : List Loc} {cells slots : Nat} {Q : State → Prop}
variable {cc : ByteArray} {pc : Nat} {ls : Array Slot} {rest st0 As : List Value} {G : kl_G} {B : Nat} {w : kl_M} {H0 : Heap} {i : Nat}
variable {y : MethodName} {bytes : ByteArray} {maxL nL mc ms n index : Nat} {ret : Option FieldType} {ws : List Cond} {rm : Room} {Ts : List Cond} {own C : String}
theorem kl_recv {C : String} {T : u_T} {N ci : Nat} {fs : List Value} (hK : kl_K G s) (hP : kl_S G B w H0 H locs) (he : w i = some (.inr (ci, fs))) (hc : vwCl[ci]? = some (C, T, N)) : ∃ cell : Cell, H[B + i]? = some cell ∧ cell.vm.isStatics = false ∧ s.vm.findClass C = some cell.cls := va_recv (q0 := 0) hK.1 (hP.one he) hc rfl
theorem kl_endi {post : Int32 → kl_M → Prop} {a : Array Value} (hP : kl_S G B w H0 H locs) (hr : CallRun p l e R s m args below meth c H locs cells slots mc ms (F0 m pc ls st0) rest (kl_Qi G B post a) (kl_fr B))
    (kk : ∀ (r : Int32) (w1 : kl_M) (H1 : Heap) (locs1 : List Loc), post r w1 → kl_S G B w1 H0 H1 locs1 → W p l e R s m args below meth c H1 locs1 (cells + mc) (slots + ms) Q (F0 m (pc + 3) ls (.int r :: rest))) : W p l e R s m args below meth c H locs cells slots Q (F0 m pc ls st0) := by
  intro T hT X
  obtain ⟨v, st₀, t, T', L, h0, X', hL, e1, ⟨⟨r, w1, hv, hp, hP1⟩, hF⟩, st⟩ := hr T hT X
  cases hv
  rw [h0] at hF
  rw [← e1] at hF hP1
  obtain ⟨t2, a1, b1⟩ := kk r w1 T'.heap (locs ++ L) hp (hP.trans hP1 hF hL) T' rfl X'
  exact ⟨t2, st t2 a1, b1⟩
theorem kl_endv {post : kl_M → Prop} {a : Array Value} (hP : kl_S G B w H0 H locs) (hr : CallRun p l e R s m args below meth c H locs cells slots mc ms (F0 m pc ls st0) rest (kl_Qv G B post a) (kl_fr B))
    (kk : ∀ (w1 : kl_M) (H1 : Heap) (locs1 : List Loc), post w1 → kl_S G B w1 H0 H1 locs1 → W p l e R s m args below meth c H1 locs1 (cells + mc) (slots + ms) Q (F0 m (pc + 3) ls rest)) : W p l e R s m args below meth c H locs cells slots Q (F0 m pc ls st0) := by
  intro T hT X
  obtain ⟨v, st₀, t, T', L, h0, X', hL, e1, ⟨⟨w1, hv, hp, hP1⟩, hF⟩, st⟩ := hr T hT X
  cases hv
  rw [h0] at hF
  rw [← e1] at hF hP1
  obtain ⟨t2, a1, b1⟩ := kk w1 T'.heap (locs ++ L) hp (hP.trans hP1 hF hL) T' rfl X'
  exact ⟨t2, st t2 a1, b1⟩
theorem kl_endr {post : Nat → kl_M → Prop} {a : Array Value} (hP : kl_S G B w H0 H locs) (hr : CallRun p l e R s m args below meth c H locs cells slots mc ms (F0 m pc ls st0) rest (kl_Qr G B post a) (kl_fr B))
    (kk : ∀ (r : Nat) (w1 : kl_M) (H1 : Heap) (locs1 : List Loc), post r w1 → kl_S G B w1 H0 H1 locs1 → W p l e R s m args below meth c H1 locs1 (cells + mc) (slots + ms) Q (F0 m (pc + 3) ls (.ref (B + r) :: rest))) : W p l e R s m args below meth c H locs cells slots Q (F0 m pc ls st0) := by
  intro T hT X
  obtain ⟨v, st₀, t, T', L, h0, X', hL, e1, ⟨⟨r, w1, hv, hp, hP1⟩, hF⟩, st⟩ := hr T hT X
  cases hv
  rw [h0] at hF
  rw [← e1] at hF hP1
  obtain ⟨t2, a1, b1⟩ := kk r w1 T'.heap (locs ++ L) hp (hP.trans hP1 hF hL) T' rfl X'
  exact ⟨t2, st t2 a1, b1⟩
theorem kl_endz {d : Nat} {post : kl_M → Prop} {a : Array Value} (hP : kl_S G B w H0 H locs) (hr : CallRun p l e R s m args below meth c H locs cells slots mc ms (F0 m pc ls st0) rest (kl_Qz G B d post a) (kl_fr B))
    (kk : ∀ (w1 : kl_M) (H1 : Heap) (locs1 : List Loc), post w1 → H1.size = H.size + d → kl_S G B w1 H0 H1 locs1 → W p l e R s m args below meth c H1 locs1 (cells + mc) (slots + ms) Q (F0 m (pc + 3) ls rest)) : W p l e R s m args below meth c H locs cells slots Q (F0 m pc ls st0) := by
  intro T hT X
  obtain ⟨v, st₀, t, T', L, h0, X', hL, e1, ⟨⟨w1, hv, hp, hP1, hz⟩, hF⟩, st⟩ := hr T hT X
  cases hv
  rw [h0] at hF hz
  rw [← e1] at hF hP1 hz
  obtain ⟨t2, a1, b1⟩ := kk w1 T'.heap (locs ++ L) hp hz (hP.trans hP1 hF hL) T' rfl X'
  exact ⟨t2, st t2 a1, b1⟩
theorem kl_preV {T : u_T} {N ci : Nat} {fs : List Value} (hK : kl_K G s) (hP : kl_S G B w H0 H locs) (he : w i = some (.inr (ci, fs))) (hc : vwCl[ci]? = some (C, T, N)) : PreV s H C (B + i) (kl_Pc G B w (.ref (B + i) :: As)) As :=
  ⟨kl_blind, kl_recv hK hP he hc, fun U hU hW => ⟨rfl, by rw [hU]; exact hP.1, kl_K.warm hW hK⟩⟩
theorem kl_preS (hK : kl_K G s) (hP : kl_S G B w H0 H locs) : PreS s H (kl_Pc G B w As) As :=
  ⟨kl_blind, fun U hU hW => ⟨rfl, by rw [hU]; exact hP.1, kl_K.warm hW hK⟩⟩
theorem kl_preZ {z : Nat} (hz : H.size = z) (hK : kl_K G s) (hP : kl_S G B w H0 H locs) : PreS s H (kl_Pz G B z w As) As :=
  ⟨kl_blindz, fun U hU hW => ⟨rfl, by rw [hU]; exact hz, by rw [hU]; exact hP.1, kl_K.warm hW hK⟩⟩
theorem kl_cVi {post : Int32 → kl_M → Prop} {T : u_T} {N ci : Nat} {fs : List Value} (S : CallFix p m c cc nL s args Ts own) (hM : Met l y ws rm (kl_Pc G B w (.ref (B + i) :: As)) (kl_Qi G B post) mc ms (kl_fr B)) (cw : CallW R s args own C index y bytes maxL ret ws rm mc ms n) (hK : kl_K G s) (hP : kl_S G B w H0 H locs) (he : w i = some (.inr (ci, fs))) (hc : vwCl[ci]? = some (C, T, N))
    (hn : As.length = n) (hsize : ls.size = nL) (hst : st0 = As.reverse ++ .ref (B + i) :: rest) (hW : (rest.map fun v => v.category).sum ≤ 8) (hdg : decode cc pc = .ok (.invokevirtual index, 3)) (hf : cells + mc ≤ R.cells ∧ slots + ms ≤ R.slots)
    (kk : ∀ (r : Int32) (w1 : kl_M) (H1 : Heap) (locs1 : List Loc), post r w1 → kl_S G B w1 H0 H1 locs1 → W p l e R s m args below meth c H1 locs1 (cells + mc) (slots + ms) Q (F0 m (pc + 3) ls (.int r :: rest))) : W p l e R s m args below meth c H locs cells slots Q (F0 m pc ls st0) :=
  kl_endi hP (W.runV (C := C) (b := B + i) (g := F0 m pc ls st0) S hM cw (kl_preV hK hP he hc) rfl hn hsize hst (lv_room hW) hdg hf) kk
theorem kl_cVv {post : kl_M → Prop} {T : u_T} {N ci : Nat} {fs : List Value} (S : CallFix p m c cc nL s args Ts own) (hM : Met l y ws rm (kl_Pc G B w (.ref (B + i) :: As)) (kl_Qv G B post) mc ms (kl_fr B)) (cw : CallW R s args own C index y bytes maxL ret ws rm mc ms n) (hK : kl_K G s) (hP : kl_S G B w H0 H locs) (he : w i = some (.inr (ci, fs))) (hc : vwCl[ci]? = some (C, T, N))
    (hn : As.length = n) (hsize : ls.size = nL) (hst : st0 = As.reverse ++ .ref (B + i) :: rest) (hW : (rest.map fun v => v.category).sum ≤ 8) (hdg : decode cc pc = .ok (.invokevirtual index, 3)) (hf : cells + mc ≤ R.cells ∧ slots + ms ≤ R.slots)
    (kk : ∀ (w1 : kl_M) (H1 : Heap) (locs1 : List Loc), post w1 → kl_S G B w1 H0 H1 locs1 → W p l e R s m args below meth c H1 locs1 (cells + mc) (slots + ms) Q (F0 m (pc + 3) ls rest)) : W p l e R s m args below meth c H locs cells slots Q (F0 m pc ls st0) :=
  kl_endv hP (W.runV (C := C) (b := B + i) (g := F0 m pc ls st0) S hM cw (kl_preV hK hP he hc) rfl hn hsize hst (lv_room hW) hdg hf) kk
theorem kl_cSi {post : Int32 → kl_M → Prop} (S : CallFix p m c cc nL s args Ts own) (hM : Met l y ws rm (kl_Pc G B w As) (kl_Qi G B post) mc ms (kl_fr B)) (cw : CallB R s args own index y bytes maxL ret ws rm mc ms n ∧ (Cond.static y).before args s = true) (hK : kl_K G s) (hP : kl_S G B w H0 H locs)
    (hn : As.length = n) (hsize : ls.size = nL) (hst : st0 = As.reverse ++ rest) (hW : (rest.map fun v => v.category).sum ≤ 8) (hdg : decode cc pc = .ok (.invokestatic index, 3)) (hf : cells + mc ≤ R.cells ∧ slots + ms ≤ R.slots)
    (kk : ∀ (r : Int32) (w1 : kl_M) (H1 : Heap) (locs1 : List Loc), post r w1 → kl_S G B w1 H0 H1 locs1 → W p l e R s m args below meth c H1 locs1 (cells + mc) (slots + ms) Q (F0 m (pc + 3) ls (.int r :: rest))) : W p l e R s m args below meth c H locs cells slots Q (F0 m pc ls st0) :=
  kl_endi hP (W.runS (g := F0 m pc ls st0) S hM cw (kl_preS hK hP) rfl hn hsize hst (lv_room hW) hdg hf) kk
theorem kl_cSv {post : kl_M → Prop} (S : CallFix p m c cc nL s args Ts own) (hM : Met l y ws rm (kl_Pc G B w As) (kl_Qv G B post) mc ms (kl_fr B)) (cw : CallB R s args own index y bytes maxL ret ws rm mc ms n ∧ (Cond.static y).before args s = true) (hK : kl_K G s) (hP : kl_S G B w H0 H locs)
    (hn : As.length = n) (hsize : ls.size = nL) (hst : st0 = As.reverse ++ rest) (hW : (rest.map fun v => v.category).sum ≤ 8) (hdg : decode cc pc = .ok (.invokestatic index, 3)) (hf : cells + mc ≤ R.cells ∧ slots + ms ≤ R.slots)
    (kk : ∀ (w1 : kl_M) (H1 : Heap) (locs1 : List Loc), post w1 → kl_S G B w1 H0 H1 locs1 → W p l e R s m args below meth c H1 locs1 (cells + mc) (slots + ms) Q (F0 m (pc + 3) ls rest)) : W p l e R s m args below meth c H locs cells slots Q (F0 m pc ls st0) :=
  kl_endv hP (W.runS (g := F0 m pc ls st0) S hM cw (kl_preS hK hP) rfl hn hsize hst (lv_room hW) hdg hf) kk
theorem kl_cSr {post : Nat → kl_M → Prop} (S : CallFix p m c cc nL s args Ts own) (hM : Met l y ws rm (kl_Pc G B w As) (kl_Qr G B post) mc ms (kl_fr B)) (cw : CallB R s args own index y bytes maxL ret ws rm mc ms n ∧ (Cond.static y).before args s = true) (hK : kl_K G s) (hP : kl_S G B w H0 H locs)
    (hn : As.length = n) (hsize : ls.size = nL) (hst : st0 = As.reverse ++ rest) (hW : (rest.map fun v => v.category).sum ≤ 8) (hdg : decode cc pc = .ok (.invokestatic index, 3)) (hf : cells + mc ≤ R.cells ∧ slots + ms ≤ R.slots)
    (kk : ∀ (r : Nat) (w1 : kl_M) (H1 : Heap) (locs1 : List Loc), post r w1 → kl_S G B w1 H0 H1 locs1 → W p l e R s m args below meth c H1 locs1 (cells + mc) (slots + ms) Q (F0 m (pc + 3) ls (.ref (B + r) :: rest))) : W p l e R s m args below meth c H locs cells slots Q (F0 m pc ls st0) :=
  kl_endr hP (W.runS (g := F0 m pc ls st0) S hM cw (kl_preS hK hP) rfl hn hsize hst (lv_room hW) hdg hf) kk
theorem kl_cIz {z d : Nat} {post : kl_M → Prop} (S : CallFix p m c cc nL s args Ts own) (hM : Met l y ws rm (kl_Pz G B z w (.ref (B + i) :: As)) (kl_Qz G B d post) mc ms (kl_fr B)) (cw : CallB R s args own index y bytes maxL none ws rm mc ms n ∧ y.name = "<init>" ∧ (Cond.instanceMethod y).before args s = true) (hz : H.size = z) (hK : kl_K G s) (hP : kl_S G B w H0 H locs)
    (hn : As.length = n) (hsize : ls.size = nL) (hst : st0 = As.reverse ++ .ref (B + i) :: rest) (hW : (rest.map fun v => v.category).sum ≤ 8) (hdg : decode cc pc = .ok (.invokespecial index, 3)) (hf : cells + mc ≤ R.cells ∧ slots + ms ≤ R.slots)
    (kk : ∀ (w1 : kl_M) (H1 : Heap) (locs1 : List Loc), post w1 → H1.size = H.size + d → kl_S G B w1 H0 H1 locs1 → W p l e R s m args below meth c H1 locs1 (cells + mc) (slots + ms) Q (F0 m (pc + 3) ls rest)) : W p l e R s m args below meth c H locs cells slots Q (F0 m pc ls st0) :=
  kl_endz hP (W.runI (b := B + i) (g := F0 m pc ls st0) S hM cw (kl_preZ hz hK hP) rfl hn hsize hst (lv_room hW) hdg hf) kk
theorem kl_cSz {z d : Nat} {post : kl_M → Prop} (S : CallFix p m c cc nL s args Ts own) (hM : Met l y ws rm (kl_Pz G B z w As) (kl_Qz G B d post) mc ms (kl_fr B)) (cw : CallB R s args own index y bytes maxL ret ws rm mc ms n ∧ (Cond.static y).before args s = true) (hz : H.size = z) (hK : kl_K G s) (hP : kl_S G B w H0 H locs)
    (hn : As.length = n) (hsize : ls.size = nL) (hst : st0 = As.reverse ++ rest) (hW : (rest.map fun v => v.category).sum ≤ 8) (hdg : decode cc pc = .ok (.invokestatic index, 3)) (hf : cells + mc ≤ R.cells ∧ slots + ms ≤ R.slots)
    (kk : ∀ (w1 : kl_M) (H1 : Heap) (locs1 : List Loc), post w1 → H1.size = H.size + d → kl_S G B w1 H0 H1 locs1 → W p l e R s m args below meth c H1 locs1 (cells + mc) (slots + ms) Q (F0 m (pc + 3) ls rest)) : W p l e R s m args below meth c H locs cells slots Q (F0 m pc ls st0) :=
  kl_endz hP (W.runS (g := F0 m pc ls st0) S hM cw (kl_preZ hz hK hP) rfl hn hsize hst (lv_room hW) hdg hf) kk
/-! ends -/
theorem kl_iret {post : Int32 → kl_M → Prop} {v : Int32} (hexec : p.tables.exec = Jvm.exec) (hb : c.code = cc) (hr : meth.sig.returnType = some .int) (hlocks : meth.locks = false) (hP : kl_S G B w s.heap H locs) (hpost : post v w) (hdg : decode cc pc = .ok (.ireturn, 1)) : W p l e R s m args below meth c H locs cells slots (MQ below (kl_Qi G B post) args s cells slots (kl_fr B)) (F0 m pc ls [.int v]) :=
  W.iret hexec hb hr (fun t ht _ => ⟨⟨v, w, rfl, hpost, by rw [ht]; exact hP.1⟩, by rw [ht]; exact hP.2.1⟩) hP.2.2 hdg hlocks
theorem kl_zret {post : Int32 → kl_M → Prop} {v : Int32} (hexec : p.tables.exec = Jvm.exec) (hb : c.code = cc) (hr : meth.sig.returnType = some .boolean) (hlocks : meth.locks = false) (hn : narrow .boolean (.int v) = .int v) (hP : kl_S G B w s.heap H locs) (hpost : post v w) (hdg : decode cc pc = .ok (.ireturn, 1)) : W p l e R s m args below meth c H locs cells slots (MQ below (kl_Qi G B post) args s cells slots (kl_fr B)) (F0 m pc ls [.int v]) :=
  W.zret hexec hb hr hn (fun t ht _ => ⟨⟨v, w, rfl, hpost, by rw [ht]; exact hP.1⟩, by rw [ht]; exact hP.2.1⟩) hP.2.2 hdg hlocks
theorem kl_vret {post : kl_M → Prop} (hexec : p.tables.exec = Jvm.exec) (hb : c.code = cc) (hr : meth.sig.returnType = none) (hlocks : meth.locks = false) (hP : kl_S G B w s.heap H locs) (hpost : post w) (hdg : decode cc pc = .ok (.return_, 1)) : W p l e R s m args below meth c H locs cells slots (MQ below (kl_Qv G B post) args s cells slots (kl_fr B)) (F0 m pc ls []) :=
  W.vret hexec hb hr (fun t ht _ => ⟨⟨w, rfl, hpost, by rw [ht]; exact hP.1⟩, by rw [ht]; exact hP.2.1⟩) hP.2.2 hdg hlocks
theorem kl_vretz {d : Nat} {post : kl_M → Prop} (hexec : p.tables.exec = Jvm.exec) (hb : c.code = cc) (hr : meth.sig.returnType = none) (hlocks : meth.locks = false) (hP : kl_S G B w s.heap H locs) (hpost : post w) (hz : H.size = s.heap.size + d) (hdg : decode cc pc = .ok (.return_, 1)) : W p l e R s m args below meth c H locs cells slots (MQ below (kl_Qz G B d post) args s cells slots (kl_fr B)) (F0 m pc ls []) :=
  W.vret hexec hb hr (fun t ht _ => ⟨⟨w, rfl, hpost, by rw [ht]; exact hP.1, by rw [ht]; exact hz⟩, by rw [ht]; exact hP.2.1⟩) hP.2.2 hdg hlocks
theorem kl_aret {post : Nat → kl_M → Prop} {v : Nat} {rt : FieldType} (hexec : p.tables.exec = Jvm.exec) (hb : c.code = cc) (hr : meth.sig.returnType = some rt) (hrt : (∃ n, rt = .object n) ∨ ∃ t, rt = .array t) (hlocks : meth.locks = false) (hP : kl_S G B w s.heap H locs) (hpost : post v w) (hdg : decode cc pc = .ok (.areturn, 1)) : W p l e R s m args below meth c H locs cells slots (MQ below (kl_Qr G B post) args s cells slots (kl_fr B)) (F0 m pc ls [.ref (B + v)]) :=
  W.aret hexec hb hr hrt (Or.inr ⟨_, rfl⟩) (fun t ht _ => ⟨⟨v, w, rfl, hpost, by rw [ht]; exact hP.1⟩, by rw [ht]; exact hP.2.1⟩) hP.2.2 hdg hlocks
/-! numbers -/
theorem kl_top {x z : Int32} (h : x = z) (k : W p l e R s m args below meth c H locs cells slots Q (F0 m pc ls (.int z :: rest))) : W p l e R s m args below meth c H locs cells slots Q (F0 m pc ls (.int x :: rest)) := by rw [h]; exact k
theorem kl_ge (hexec : p.tables.exec = Jvm.exec) (hb : c.code = cc) {x y : Nat} {off : Int} {tgt : Nat} (hx : x < 2 ^ 31) (hy : y < 2 ^ 31) (hdg : decode cc pc = .ok (.if_icmp .ge off, 3)) (ht : (pc : Int) + off = (tgt : Int)) (kt : y ≤ x → W p l e R s m args below meth c H locs cells slots Q (F0 m tgt ls rest)) (kf : x < y → W p l e R s m args below meth c H locs cells slots Q (F0 m (pc + 3) ls rest)) : W p l e R s m args below meth c H locs cells slots Q (F0 m pc ls (.int (nI y) :: .int (nI x) :: rest)) :=
  lv_icmp_ge hexec hb hdg ht (fun h => kt ((nI_leI hy hx).mp h)) (fun h => kf (Nat.not_le.mp fun q => h ((nI_leI hy hx).mpr q)))
theorem kl_lt (hexec : p.tables.exec = Jvm.exec) (hb : c.code = cc) {x y : Nat} {off : Int} {tgt : Nat} (hx : x < 2 ^ 31) (hy : y < 2 ^ 31) (hdg : decode cc pc = .ok (.if_icmp .lt off, 3)) (ht : (pc : Int) + off = (tgt : Int)) (kt : x < y → W p l e R s m args below meth c H locs cells slots Q (F0 m tgt ls rest)) (kf : y ≤ x → W p l e R s m args below meth c H locs cells slots Q (F0 m (pc + 3) ls rest)) : W p l e R s m args below meth c H locs cells slots Q (F0 m pc ls (.int (nI y) :: .int (nI x) :: rest)) :=
  lv_icmp_lt hexec hb hdg ht (fun h => kt ((nI_ltI hx hy).mp h)) (fun h => kf (Nat.not_lt.mp fun q => h ((nI_ltI hx hy).mpr q)))
theorem kl_gt (hexec : p.tables.exec = Jvm.exec) (hb : c.code = cc) {x y : Nat} {off : Int} {tgt : Nat} (hx : x < 2 ^ 31) (hy : y < 2 ^ 31) (hdg : decode cc pc = .ok (.if_icmp .gt off, 3)) (ht : (pc : Int) + off = (tgt : Int)) (kt : y < x → W p l e R s m args below meth c H locs cells slots Q (F0 m tgt ls rest)) (kf : x ≤ y → W p l e R s m args below meth c H locs cells slots Q (F0 m (pc + 3) ls rest)) : W p l e R s m args below meth c H locs cells slots Q (F0 m pc ls (.int (nI y) :: .int (nI x) :: rest)) :=
  lv_icmp_gt hexec hb hdg ht (fun h => kt ((nI_ltI hy hx).mp h)) (fun h => kf (Nat.not_lt.mp fun q => h ((nI_ltI hy hx).mpr q)))
theorem kl_le (hexec : p.tables.exec = Jvm.exec) (hb : c.code = cc) {x y : Nat} {off : Int} {tgt : Nat} (hx : x < 2 ^ 31) (hy : y < 2 ^ 31) (hdg : decode cc pc = .ok (.if_icmp .le off, 3)) (ht : (pc : Int) + off = (tgt : Int)) (kt : x ≤ y → W p l e R s m args below meth c H locs cells slots Q (F0 m tgt ls rest)) (kf : y < x → W p l e R s m args below meth c H locs cells slots Q (F0 m (pc + 3) ls rest)) : W p l e R s m args below meth c H locs cells slots Q (F0 m pc ls (.int (nI y) :: .int (nI x) :: rest)) :=
  lv_icmp_le hexec hb hdg ht (fun h => kt ((nI_leI hx hy).mp h)) (fun h => kf (Nat.not_le.mp fun q => h ((nI_leI hx hy).mpr q)))
theorem kl_eq (hexec : p.tables.exec = Jvm.exec) (hb : c.code = cc) {x y : Nat} {off : Int} {tgt : Nat} (hx : x < 2 ^ 31) (hy : y < 2 ^ 31) (hdg : decode cc pc = .ok (.if_icmp .eq off, 3)) (ht : (pc : Int) + off = (tgt : Int)) (kt : x = y → W p l e R s m args below meth c H locs cells slots Q (F0 m tgt ls rest)) (kf : ¬ x = y → W p l e R s m args below meth c H locs cells slots Q (F0 m (pc + 3) ls rest)) : W p l e R s m args below meth c H locs cells slots Q (F0 m pc ls (.int (nI y) :: .int (nI x) :: rest)) :=
  lv_icmp_eq hexec hb hdg ht (fun h => kt ((nI_eq hx hy).mp h)) (fun h => kf (fun q => h ((nI_eq hx hy).mpr q)))
theorem kl_ne (hexec : p.tables.exec = Jvm.exec) (hb : c.code = cc) {x y : Nat} {off : Int} {tgt : Nat} (hx : x < 2 ^ 31) (hy : y < 2 ^ 31) (hdg : decode cc pc = .ok (.if_icmp .ne off, 3)) (ht : (pc : Int) + off = (tgt : Int)) (kt : ¬ x = y → W p l e R s m args below meth c H locs cells slots Q (F0 m tgt ls rest)) (kf : x = y → W p l e R s m args below meth c H locs cells slots Q (F0 m (pc + 3) ls rest)) : W p l e R s m args below meth c H locs cells slots Q (F0 m pc ls (.int (nI y) :: .int (nI x) :: rest)) :=
  lv_icmp_ne hexec hb hdg ht (fun h => kt (fun q => h ((nI_eq hx hy).mpr q))) (fun h => kf ((nI_eq hx hy).mp h))
theorem kl_ifeq (hexec : p.tables.exec = Jvm.exec) (hb : c.code = cc) {x : Int32} {P : Prop} (hx : kl_b x P) {off : Int} {tgt : Nat} (hdg : decode cc pc = .ok (.ifCond .eq off, 3)) (ht : (pc : Int) + off = (tgt : Int)) (kt : ¬ P → W p l e R s m args below meth c H locs cells slots Q (F0 m tgt ls rest)) (kf : P → W p l e R s m args below meth c H locs cells slots Q (F0 m (pc + 3) ls rest)) : W p l e R s m args below meth c H locs cells slots Q (F0 m pc ls (.int x :: rest)) :=
  lv_if_eq hexec hb hdg ht (fun h => kt (hx.z.mp h)) (fun h => kf (Classical.byContradiction fun q => h (hx.z.mpr q)))
theorem kl_ifne (hexec : p.tables.exec = Jvm.exec) (hb : c.code = cc) {x : Int32} {P : Prop} (hx : kl_b x P) {off : Int} {tgt : Nat} (hdg : decode cc pc = .ok (.ifCond .ne off, 3)) (ht : (pc : Int) + off = (tgt : Int)) (kt : P → W p l e R s m args below meth c H locs cells slots Q (F0 m tgt ls rest)) (kf : ¬ P → W p l e R s m args below meth c H locs cells slots Q (F0 m (pc + 3) ls rest)) : W p l e R s m args below meth c H locs cells slots Q (F0 m pc ls (.int x :: rest)) :=
  lv_if_ne hexec hb hdg ht (fun h => kt (Classical.byContradiction fun q => h (hx.z.mpr q))) (fun h => kf (hx.z.mp h))
theorem kl_copyi (hexec : p.tables.exec = Jvm.exec) (hb : c.code = cc) (hml : c.maxLocals = ls.size) {own : String} {index : Nat} (hown : s.vm.findClass own = some m.cls) (hlink : (Cond.methodLink own index arraycopyName).before args s = true) (hnat : (Cond.native arraycopyName).before args s = true) (hstat : (Cond.static arraycopyName).before args s = true) (hini : (Cond.initialized "java/lang/System").before args s = true)
    (hK : kl_K G s) (hP : kl_S G B w H0 H locs) {i2 n0 n1 n : Nat} {f g : Nat → Int32} (he0 : w i = some (kl_aI G n0 f)) (he1 : w i2 = some (kl_aI G n1 g)) (h0 : n ≤ n0) (h1 : n ≤ n1) (hn : n < 2 ^ 31)
    (hframes : 1 ≤ R.frames) (hlocals : (rest.map fun v => v.category).sum + (nativeFrameWords "java/lang/System" "arraycopy" 5 + 11) ≤ R.locals) (hdg : decode cc pc = .ok (.invokestatic index, 3))
    (kk : ∀ (w1 : kl_M) (H1 : Heap) (locs1 : List Loc), w1 i2 = some (kl_aI G n1 (va_cpy f g 0 0 n)) → (∀ j, j ≠ i2 → w1 j = w j) → H1.size = H.size → kl_S G B w1 H0 H1 locs1 → W p l e R s m args below meth c H1 locs1 cells slots Q (F0 m (pc + 3) ls rest)) : W p l e R s m args below meth c H locs cells slots Q (F0 m pc ls (.int (nI n) :: .int (nI 0) :: .ref (B + i2) :: .int (nI 0) :: .ref (B + i) :: rest)) := by
  have hc : (nI n).toNatClampNeg = n := nI_clamp hn
  have hc0 : (nI 0).toNatClampNeg = 0 := nI_clamp (by omega)
  have nn : ∀ z : Nat, z < 2 ^ 31 → (nI z).toInt = (z : Int) := fun z hz => nI_toInt hz
  intro T hT X
  have hc0' : H[B + i]? = some (vp_cell (G.2 0) (n0, .inl f)) := hP.1.2 i _ he0
  have hc1 : H[B + i2]? = some (vp_cell (G.2 0) (n1, .inl g)) := hP.1.2 i2 _ he1
  obtain ⟨-, k0, hk0, cm0, hkk0⟩ := (hK.1.2 0 (G.2 0, .int) rfl).1 n0 (fun j => .int (f j))
  obtain ⟨vm', X', step⟩ := X.arraycopy hexec hown hlink hnat hstat hini (src := B + i) (dst := B + i2) (cs := vp_cell (G.2 0) (n0, .inl f)) (cd := vp_cell (G.2 0) (n1, .inl g)) (srcPos := nI 0) (destPos := nI 0) (n := nI n) (by rw [hT]; exact hc0') (by rw [hT]; exact hc1)
    (fun _ h => by cases h) (fun _ h => by cases h) (fun h => by cases h) (fun h => by cases h) hk0 hk0 hkk0 hkk0 (by simp [refKind]) (nI_pos (by omega)) (nI_pos (by omega)) (nI_pos hn)
    (by rw [nn 0 (by omega), nn n hn]; show ¬ _ > ((arrV (G.2 0) n0 (fun j => .int (f j))).slots.size : Int); rw [arrV_size]; omega)
    (by rw [nn 0 (by omega), nn n hn]; show ¬ _ > ((arrV (G.2 0) n1 (fun j => .int (g j))).slots.size : Int); rw [arrV_size]; omega)
    (fun vm₁ _ j hj => by
      rw [hc] at hj
      have e : (vp_cell (G.2 0) (n0, .inl f)).slots.getD ((nI 0).toNatClampNeg + j) .null = .int (f ((nI 0).toNatClampNeg + j)) := by
        show (arrV (G.2 0) n0 (fun j => .int (f j))).slots.getD _ _ = _
        rw [Array.getD_eq_getD_getElem?, arrV_read _ _ (by rw [hc0]; omega)]
        rfl
      refine ⟨?_, ?_⟩
      · rw [e]; rfl
      · rw [e]
        exact trivial)
    (g := F0 m pc ls (.int (nI n) :: .int (nI 0) :: .ref (B + i2) :: .int (nI 0) :: .ref (B + i) :: rest)) rfl (by rw [hml]) (rest := rest) rfl (by rw [hb]; exact hdg) hframes (by show 2 * 0 + _ + _ ≤ _; omega)
  have e1 : copied (vp_cell (G.2 0) (n0, .inl f)) (vp_cell (G.2 0) (n1, .inl g)) (nI 0) (nI 0) (nI n) = vp_cell (G.2 0) (n1, .inl (va_cpy f g (nI 0).toNatClampNeg (nI 0).toNatClampNeg (nI n).toNatClampNeg)) := va_copied (fun z => .int z) (G.2 0) (G.2 0) f g (by rw [hc, hc0]; omega)
  rw [hc, hc0] at e1
  rw [e1] at X' step
  have hl : B + i2 < H.size := (Array.getElem?_eq_some_iff.mp hc1).1
  have hheap : ((T.setVm vm').setCell (B + i2) (vp_cell (G.2 0) (n1, .inl (va_cpy f g 0 0 n)))).heap = H.setIfInBounds (B + i2) (vp_cell (G.2 0) (n1, .inl (va_cpy f g 0 0 n))) := by rw [← hT]; rfl
  have oq : ∀ q : Nat, q ≠ B + i2 → (H.setIfInBounds (B + i2) (vp_cell (G.2 0) (n1, .inl (va_cpy f g 0 0 n))))[q]? = H[q]? := fun q hq => by simp [Array.getElem?_setIfInBounds, Ne.symm hq]
  have hz : (H.setIfInBounds (B + i2) (vp_cell (G.2 0) (n1, .inl (va_cpy f g 0 0 n)))).size = H.size := by simp
  have hat : va_at G.1 vwCl (B + i2, kl_aI G n1 (va_cpy f g 0 0 n)) (H.setIfInBounds (B + i2) (vp_cell (G.2 0) (n1, .inl (va_cpy f g 0 0 n)))) := by
    show (H.setIfInBounds (B + i2) _)[B + i2]? = some _
    simp [Array.getElem?_setIfInBounds, hl]
  obtain ⟨t, a1, b1⟩ := kk _ _ _ kl_up_self (fun j hj => kl_up_ne hj) hz ⟨hP.1.put hz hat oq, ⟨by rw [hz]; exact hP.2.1.1, fun q hq => (oq q (by omega)).trans (hP.2.1.2 q hq)⟩, fun q hq => by
      rcases List.mem_append.mp hq with h | h
      · exact hP.2.2 q h
      · obtain ⟨z, -, hz⟩ := List.mem_map.mp h
        rw [← hz]
        exact Nat.le_add_right _ _⟩ _ hheap X'
  exact ⟨t, step t a1, b1⟩
theorem kl_n0 {x : Nat} (hx : x < 2 ^ 31) : nI x = 0 ↔ x = 0 := ⟨fun h => (nI_eq hx (by omega)).mp (h.trans nI_0.symm), fun h => by rw [h]; rfl⟩
theorem kl_nlt {x : Nat} (hx : x < 2 ^ 31) : ¬ nI x < 0 := nI_pos hx
theorem kl_nm1 {x : Nat} (hx : x < 2 ^ 31) : nI x ≠ -1 := fun h => nI_pos hx (by rw [h]; decide)
theorem kl_nle {x : Nat} (hx : x < 2 ^ 31) : nI x ≤ 0 ↔ x = 0 := by
  rw [← nI_0, nI_leI hx (by omega)]
  omega
theorem kl_z_eq (hexec : p.tables.exec = Jvm.exec) (hb : c.code = cc) {x : Nat} {off : Int} {tgt : Nat} (hx : x < 2 ^ 31) (hdg : decode cc pc = .ok (.ifCond .eq off, 3)) (ht : (pc : Int) + off = (tgt : Int)) (kt : x = 0 → W p l e R s m args below meth c H locs cells slots Q (F0 m tgt ls rest)) (kf : 0 < x → W p l e R s m args below meth c H locs cells slots Q (F0 m (pc + 3) ls rest)) : W p l e R s m args below meth c H locs cells slots Q (F0 m pc ls (.int (nI x) :: rest)) :=
  lv_if_eq hexec hb hdg ht (fun h => kt ((kl_n0 hx).mp h)) (fun h => kf (Nat.pos_of_ne_zero fun q => h ((kl_n0 hx).mpr q)))
theorem kl_z_ne (hexec : p.tables.exec = Jvm.exec) (hb : c.code = cc) {x : Nat} {off : Int} {tgt : Nat} (hx : x < 2 ^ 31) (hdg : decode cc pc = .ok (.ifCond .ne off, 3)) (ht : (pc : Int) + off = (tgt : Int)) (kt : 0 < x → W p l e R s m args below meth c H locs cells slots Q (F0 m tgt ls rest)) (kf : x = 0 → W p l e R s m args below meth c H locs cells slots Q (F0 m (pc + 3) ls rest)) : W p l e R s m args below meth c H locs cells slots Q (F0 m pc ls (.int (nI x) :: rest)) :=
  lv_if_ne hexec hb hdg ht (fun h => kt (Nat.pos_of_ne_zero fun q => h ((kl_n0 hx).mpr q))) (fun h => kf ((kl_n0 hx).mp h))
theorem kl_z_le (hexec : p.tables.exec = Jvm.exec) (hb : c.code = cc) {x : Nat} {off : Int} {tgt : Nat} (hx : x < 2 ^ 31) (hdg : decode cc pc = .ok (.ifCond .le off, 3)) (ht : (pc : Int) + off = (tgt : Int)) (kt : x = 0 → W p l e R s m args below meth c H locs cells slots Q (F0 m tgt ls rest)) (kf : 0 < x → W p l e R s m args below meth c H locs cells slots Q (F0 m (pc + 3) ls rest)) : W p l e R s m args below meth c H locs cells slots Q (F0 m pc ls (.int (nI x) :: rest)) :=
  lv_if_le hexec hb hdg ht (fun h => kt ((kl_nle hx).mp h)) (fun h => kf (Nat.pos_of_ne_zero fun q => h ((kl_nle hx).mpr q)))
theorem kl_z_gt (hexec : p.tables.exec = Jvm.exec) (hb : c.code = cc) {x : Nat} {off : Int} {tgt : Nat} (hx : x < 2 ^ 31) (hdg : decode cc pc = .ok (.ifCond .gt off, 3)) (ht : (pc : Int) + off = (tgt : Int)) (kt : 0 < x → W p l e R s m args below meth c H locs cells slots Q (F0 m tgt ls rest)) (kf : x = 0 → W p l e R s m args below meth c H locs cells slots Q (F0 m (pc + 3) ls rest)) : W p l e R s m args below meth c H locs cells slots Q (F0 m pc ls (.int (nI x) :: rest)) :=
  lv_if_gt hexec hb hdg ht (fun h => kt (Nat.pos_of_ne_zero fun q => by rw [q] at h; exact absurd h (by decide))) (fun h => kf (Nat.eq_zero_of_not_pos fun q => h (by rw [← nI_0]; exact (nI_ltI (by omega) hx).mpr q)))
theorem kl_z_lt (hexec : p.tables.exec = Jvm.exec) (hb : c.code = cc) {x : Nat} {off : Int} {tgt : Nat} (hx : x < 2 ^ 31) (hdg : decode cc pc = .ok (.ifCond .lt off, 3)) (ht : (pc : Int) + off = (tgt : Int)) (kf : W p l e R s m args below meth c H locs cells slots Q (F0 m (pc + 3) ls rest)) : W p l e R s m args below meth c H locs cells slots Q (F0 m pc ls (.int (nI x) :: rest)) :=
  lv_if_lt hexec hb hdg ht (fun h => absurd h (nI_pos hx)) (fun _ => kf)
theorem kl_z_ge (hexec : p.tables.exec = Jvm.exec) (hb : c.code = cc) {x : Nat} {off : Int} {tgt : Nat} (hx : x < 2 ^ 31) (hdg : decode cc pc = .ok (.ifCond .ge off, 3)) (ht : (pc : Int) + off = (tgt : Int)) (kt : W p l e R s m args below meth c H locs cells slots Q (F0 m tgt ls rest)) : W p l e R s m args below meth c H locs cells slots Q (F0 m pc ls (.int (nI x) :: rest)) :=
  lv_if_ge hexec hb hdg ht (fun _ => kt) (fun h => absurd (nI_pos' hx) h)
theorem kl_arr {i n : Nat} {f g : Nat → Int32} (hP : kl_S G B w H0 H locs) (he : w i = some (kl_aI G n f)) (h : ∀ j, j < n → f j = g j) : ∃ w1 : kl_M, w1 i = some (kl_aI G n g) ∧ (∀ j, j ≠ i → w1 j = w j) ∧ kl_S G B w1 H0 H locs := by
  refine ⟨kl_up w i (kl_aI G n g), kl_up_self, fun j hj => kl_up_ne hj, ⟨hP.1.1, fun j e hj => ?_⟩, hP.2⟩
  by_cases hji : j = i
  · subst hji
    rw [kl_up_self] at hj
    cases hj
    have h1 := hP.1.2 j _ he
    have h2 : vp_cell (G.2 0) (n, .inl f) = vp_cell (G.2 0) (n, .inl g) := by
      rw [vp_cell_i, vp_cell_i]
      unfold arrV
      congr 2
      funext k
      exact congrArg Value.int (h k.val k.isLt)
    show H[B + j]? = some (vp_cell _ _)
    rw [← h2]
    exact h1
  · rw [kl_up_ne hji] at hj
    exact hP.1.2 j e hj
end KLC
end
section
/-! What the rows of a ledger say, in words of arrays: T p is the table of place p (-1: none), C (4 * p + c) its cell. -/
noncomputable def mt_ct (P : Nat → Prop) : Nat → Nat
  | 0 => 0
  | n + 1 => mt_ct P n + @ite Nat (P n) (Classical.propDecidable _) 1 0
theorem mt_ct_y {P : Nat → Prop} {n : Nat} (h : P n) : mt_ct P (n + 1) = mt_ct P n + 1 := by simp [mt_ct, h]
theorem mt_ct_n {P : Nat → Prop} {n : Nat} (h : ¬ P n) : mt_ct P (n + 1) = mt_ct P n := by simp [mt_ct, h]
theorem mt_ct_le (P : Nat → Prop) : ∀ n, mt_ct P n ≤ n
  | 0 => Nat.le_refl _
  | n + 1 => by
    have h := mt_ct_le P n
    by_cases q : P n
    · rw [mt_ct_y q]; omega
    · rw [mt_ct_n q]; omega
theorem mt_ct_cong {P P2 : Nat → Prop} : ∀ {n : Nat}, (∀ k, k < n → (P k ↔ P2 k)) → mt_ct P n = mt_ct P2 n
  | 0, _ => rfl
  | n + 1, h => by
    have ih := mt_ct_cong (n := n) (fun k hk => h k (by omega))
    by_cases q : P n
    · rw [mt_ct_y q, mt_ct_y ((h n (by omega)).mp q), ih]
    · rw [mt_ct_n q, mt_ct_n (fun z => q ((h n (by omega)).mpr z)), ih]
def mt_find (T C : Nat → Int32) (t k r : Int32) : Prop := (r = -1 ∧ ∀ p, p < 24 → ¬ (T p = t ∧ C (4 * p) = k)) ∨ ∃ p, p < 24 ∧ r = nI p ∧ T p = t ∧ C (4 * p) = k
def mt_free (T : Nat → Int32) (r : Int32) : Prop := (r = -1 ∧ ∀ p, p < 24 → ¬ T p = -1) ∨ ∃ p, p < 24 ∧ r = nI p ∧ T p = -1
noncomputable def mt_less (T C : Nat → Int32) (t k : Int32) : Nat := mt_ct (fun q => T q = t ∧ C (4 * q) < k) 24
def mt_rank (T C : Nat → Int32) (t k r : Int32) : Prop := (r = -1 ∧ ∀ p, p < 24 → ¬ (T p = t ∧ nI (mt_less T C t (C (4 * p))) = k)) ∨ ∃ p, p < 24 ∧ r = nI p ∧ T p = t ∧ nI (mt_less T C t (C (4 * p))) = k
def mt_twinb (T C : Nat → Int32) (p c : Nat) : Prop := ∃ q, q < p ∧ T q = T p ∧ C (4 * q + c) = C (4 * p + c)
def mt_twin (T C : Nat → Int32) (t : Int32) (c : Nat) : Prop := ∃ p, p < 24 ∧ T p = t ∧ C (4 * p + c) ≠ 0 ∧ mt_twinb T C p c
/-- the row in place p refers to the one in place q by a link -/
def mt_ref (T C : Nat → Int32) (ch : Int32) (co : Nat) (pa : Int32) (p q : Nat) : Prop := T p = ch ∧ C (4 * p + co) ≠ 0 ∧ T q = pa ∧ C (4 * q) = C (4 * p + co)
def mt_tgt (T C : Nat → Int32) (ch : Int32) (co : Nat) (pa : Int32) (p : Nat) (r : Int32) : Prop := (r = -1 ∧ ∀ q, q < 24 → ¬ mt_ref T C ch co pa p q) ∨ ∃ q, q < 24 ∧ r = nI q ∧ mt_ref T C ch co pa p q
def mt_lbrk (T C : Nat → Int32) (ch : Int32) (co : Nat) (pa : Int32) : Prop := ∃ p, p < 24 ∧ (T p = ch ∧ C (4 * p + co) ≠ 0) ∧ ∀ q, q < 24 → ¬ mt_ref T C ch co pa p q
theorem mt_min {n x : Nat} (h : n ≤ x) (hx : x < 2 ^ 31) : (if nI n < nI x then nI n else nI x) = nI n := by
  by_cases q : n < x
  · rw [if_pos ((nI_ltI (by omega) hx).mpr q)]
  · rw [if_neg (fun z => q ((nI_ltI (by omega) hx).mp z)), show n = x by omega]
/-! the words of a check -/
def mt_wok (n : Nat) : Prop := n ≤ 3 ∨ (10 ≤ n ∧ n ≤ 17) ∨ (100 ≤ n ∧ n ≤ 300)
def mt_word (w : Int32) : Prop := (¬ w < 0 ∧ w ≤ nI 3) ∨ (¬ w < nI 10 ∧ w ≤ nI 17) ∨ (¬ w < nI 100 ∧ w ≤ nI 300)
theorem mt_word_nat {w : Int32} (h : mt_word w) : ∃ n, w = nI n ∧ mt_wok n := by
  have key : ∀ (lo hi : Nat), hi < 1000 → ¬ w < nI lo → lo < 1000 → w ≤ nI hi → ∃ n, w = nI n ∧ lo ≤ n ∧ n ≤ hi := by
    intro lo hi hh h1 hlo h2
    have h0 : ¬ w < 0 := fun z => h1 (by
      rw [← nI_0] at z
      exact Int32.lt_of_lt_of_le z ((nI_leI (by omega) (by omega)).mpr (Nat.zero_le _)))
    obtain ⟨n, hn, rfl⟩ := nI_of h0
    refine ⟨n, rfl, ?_, (nI_leI hn (by omega)).mp h2⟩
    rcases Nat.lt_or_ge n lo with q | q
    · exact absurd ((nI_ltI hn (by omega)).mpr q) h1
    · exact q
  rcases h with ⟨h1, h2⟩ | ⟨h1, h2⟩ | ⟨h1, h2⟩
  · obtain ⟨n, e, -, h3⟩ := key 0 3 (by omega) (by rw [nI_0]; exact h1) (by omega) h2
    exact ⟨n, e, Or.inl h3⟩
  · obtain ⟨n, e, h3, h4⟩ := key 10 17 (by omega) h1 (by omega) h2
    exact ⟨n, e, Or.inr (Or.inl ⟨h3, h4⟩)⟩
  · obtain ⟨n, e, h3, h4⟩ := key 100 300 (by omega) h1 (by omega) h2
    exact ⟨n, e, Or.inr (Or.inr ⟨h3, h4⟩)⟩
def mt_tk (n : Nat) : Nat := if n < 10 ∨ 17 < n then 0 else if n = 17 then 1 else 2
def mt_h (wd : Nat → Nat) (cols : Nat) : Nat → Option Nat
  | 0 => some 0
  | i + 1 => match mt_h wd cols i with
    | none => none
    | some h => if (wd i ≤ 3 ∧ cols ≤ wd i) ∨ h < mt_tk (wd i) then none else some (h + 1 - mt_tk (wd i))
theorem mt_h_none {wd : Nat → Nat} {cols i : Nat} (h : mt_h wd cols i = none) : ∀ n, i ≤ n → mt_h wd cols n = none
  | 0, hn => by
    obtain rfl : i = 0 := by omega
    exact h
  | n + 1, hn => by
    rcases Nat.lt_or_ge n i with q | q
    · obtain rfl : i = n + 1 := by omega
      exact h
    · rw [mt_h, mt_h_none h n q]
theorem mt_h_some {wd : Nat → Nat} {cols n : Nat} {x : Nat} (h : mt_h wd cols n = some x) : ∀ i, i ≤ n → ∃ y, mt_h wd cols i = some y := by
  intro i hi
  cases q : mt_h wd cols i with
  | none => rw [mt_h_none q n hi] at h; cases h
  | some y => exact ⟨y, rfl⟩
theorem mt_h_step {wd : Nat → Nat} {cols i h : Nat} (h1 : mt_h wd cols i = some h) (h2 : ¬ ((wd i ≤ 3 ∧ cols ≤ wd i) ∨ h < mt_tk (wd i))) : mt_h wd cols (i + 1) = some (h + 1 - mt_tk (wd i)) := by
  rw [mt_h, h1]
  exact if_neg h2
theorem mt_h_bad {wd : Nat → Nat} {cols i h : Nat} (h1 : mt_h wd cols i = some h) (h2 : (wd i ≤ 3 ∧ cols ≤ wd i) ∨ h < mt_tk (wd i)) : mt_h wd cols (i + 1) = none := by
  rw [mt_h, h1]
  exact if_pos h2
theorem mt_h_inv {wd : Nat → Nat} {cols i h y : Nat} (h1 : mt_h wd cols i = some h) (h2 : mt_h wd cols (i + 1) = some y) : ¬ ((wd i ≤ 3 ∧ cols ≤ wd i) ∨ h < mt_tk (wd i)) ∧ y = h + 1 - mt_tk (wd i) := by
  by_cases q : (wd i ≤ 3 ∧ cols ≤ wd i) ∨ h < mt_tk (wd i)
  · rw [mt_h_bad h1 q] at h2; cases h2
  · rw [mt_h_step h1 q] at h2
    exact ⟨q, (Option.some.inj h2).symm⟩
theorem mt_h_le {wd : Nat → Nat} {cols : Nat} : ∀ {i h : Nat}, mt_h wd cols i = some h → h ≤ i
  | 0, h, e => by cases e; exact Nat.le_refl _
  | i + 1, h, e => by
    obtain ⟨y, hy⟩ := mt_h_some e i (by omega)
    obtain ⟨-, rfl⟩ := mt_h_inv hy e
    have := mt_h_le hy
    omega
theorem mt_hs {h t : Nat} (ht : t ≤ h) : nI h + (nI 1 - nI t) = nI (h + 1 - t) := by
  rw [Int32.sub_eq_add_neg, ← Int32.add_assoc, ← Int32.sub_eq_add_neg, nI_add, pk_sub (by omega)]
def mt_right (wd : Nat → Nat) (cols n : Nat) : Prop := mt_h wd cols n = some 1
def mt_op (n : Nat) (x y : Int32) : Int32 := if n = 10 then x + y else if n = 11 then x - y else if n = 12 then x * y else if n = 13 then (if x < y then nI 1 else nI 0) else if n = 14 then (if x = y then nI 1 else nI 0) else if n = 15 then (if x ≠ 0 ∧ y ≠ 0 then nI 1 else nI 0) else if n = 16 then (if x ≠ 0 ∨ y ≠ 0 then nI 1 else nI 0) else (if x = 0 then nI 1 else nI 0)
def mt_lay (row : Nat → Int32) (n : Nat) : Int32 := if n ≤ 3 then row n else nI n - nI 200
/-- what a word lays on the pile g, its takings gone down to height h -/
def mt_val (row : Nat → Int32) (n : Nat) (g : Nat → Int32) (h : Nat) : Int32 := if mt_tk n = 0 then mt_lay row n else mt_op n (g h) (if n = 17 then 0 else g (h + 1))
def mt_hh (wd : Nat → Nat) : Nat → Nat
  | 0 => 0
  | i + 1 => mt_hh wd i + 1 - mt_tk (wd i)
def mt_pile (wd : Nat → Nat) (row : Nat → Int32) : Nat → Nat → Int32
  | 0 => fun _ => 0
  | i + 1 => upd (mt_pile wd row i) (mt_hh wd i - mt_tk (wd i)) (mt_val row (wd i) (mt_pile wd row i) (mt_hh wd i - mt_tk (wd i)))
def mt_ev (wd : Nat → Nat) (n : Nat) (row : Nat → Int32) : Int32 := mt_pile wd row n 0
theorem mt_hh_eq {wd : Nat → Nat} {cols : Nat} : ∀ {i h : Nat}, mt_h wd cols i = some h → mt_hh wd i = h
  | 0, h, e => by cases e; rfl
  | i + 1, h, e => by
    obtain ⟨y, hy⟩ := mt_h_some e i (by omega)
    obtain ⟨-, rfl⟩ := mt_h_inv hy e
    rw [mt_hh, mt_hh_eq hy]
theorem mt_tk_le (n : Nat) : mt_tk n ≤ 2 := by
  unfold mt_tk
  grind
theorem mt_upd_lt {g : Nat → Int32} {p : Nat} {x : Int32} (h : ∀ q, q < p → g q = x) : ∀ q, q < p + 1 → upd g p x q = x := by
  intro q hq
  by_cases z : q = p
  · rw [z, pk_us]
  · rw [pk_un z]
    exact h q (by omega)
end
section
/-! Methods that throw, over the map. -/
def kl_Px (G : kl_G) (B : Nat) (w : kl_M) (av : List Value) : Array Value → State → Prop := fun v U => v = av.toArray ∧ kl_P G B w U.heap ∧ kl_K G U ∧ kl_Z B U U.heap
theorem kl_blindx {G : kl_G} {B : Nat} {w : kl_M} {av : List Value} : FrameBlind (kl_Px G B w av) := fun a U g mk q => ⟨q.1, q.2.1, kl_K.same (U := U.calling g mk a) rfl q.2.2.1, kl_Z.moved (u := U) (U := U.calling g mk a) (Vm.Alike.refl U.vm) q.2.2.2⟩
section KLX
variable {p : Program} {l : Launch} {e : Env} {R : Room} {s : State} {m : MethodId} {args : Array Value} {below : List Frame} {meth : Method} {c : Code} {H : Heap} {locs : List Loc} {cells slots : Nat} {Q : State → Prop}
variable {cc : ByteArray} {pc : Nat} {ls : Array Slot} {rest st0 As : List Value} {G : kl_G} {B : Nat} {w : kl_M} {H0 : Heap} {i : Nat}
variable {y : MethodName} {bytes : ByteArray} {maxL nL mc ms n index : Nat} {ret : Option FieldType} {ws : List Cond} {rm : Room} {Ts : List Cond} {own C : String}
variable {Qc : Array Value → State → Outcome → State → Prop} {px : String → kl_M → Prop}
theorem kl_preVx {T : u_T} {N ci : Nat} {fs : List Value} (hK : kl_K G s) (hZ : kl_Z B s s.heap) (hP : kl_S G B w s.heap H locs) (he : w i = some (.inr (ci, fs))) (hc : vwCl[ci]? = some (C, T, N)) : PreV s H C (B + i) (kl_Px G B w (.ref (B + i) :: As)) As :=
  ⟨kl_blindx, kl_recv hK hP he hc, fun U hU hW => ⟨rfl, by rw [hU]; exact hP.1, kl_K.warm hW hK, by rw [hU]; exact (hZ.kept hP.2.1).moved hW.alike⟩⟩
theorem kl_preSx (hK : kl_K G s) (hZ : kl_Z B s s.heap) (hP : kl_S G B w s.heap H locs) : PreS s H (kl_Px G B w As) As :=
  ⟨kl_blindx, fun U hU hW => ⟨rfl, by rw [hU]; exact hP.1, kl_K.warm hW hK, by rw [hU]; exact (hZ.kept hP.2.1).moved hW.alike⟩⟩
theorem kl_endxi {post : Int32 → kl_M → Prop} {a : Array Value} (hP : kl_S G B w H0 H locs) (hr : vx_Run p l e R s m args below meth c H locs cells slots mc ms (F0 m pc ls st0) rest (kl_Qi G B post a) (kl_X G B px) (kl_fr B))
    (kx : ∀ (E : String) (ce : Cell) (q9 : Addr) (w1 : kl_M) (H1 : Heap) (locs1 : List Loc), px E w1 → kl_S G B w1 H0 H1 locs1 → H1[q9]? = some ce → ce.vm = .none → s.vm.findClass E = some ce.cls → vx_W p l e R s m args below meth c H1 locs1 (cells + mc) (slots + ms) Q (F0 m pc ls rest) q9)
    (kk : ∀ (r : Int32) (w1 : kl_M) (H1 : Heap) (locs1 : List Loc), post r w1 → kl_S G B w1 H0 H1 locs1 → W p l e R s m args below meth c H1 locs1 (cells + mc) (slots + ms) Q (F0 m (pc + 3) ls (.int r :: rest))) : W p l e R s m args below meth c H locs cells slots Q (F0 m pc ls st0) := by
  intro T hT X
  rcases hr T hT X with ⟨v, st₀, t, T', L, h0, X', hL, e1, e2, ⟨⟨r, w1, hv, hp, hP1⟩, hF⟩, st⟩ | ⟨q, st₀, t, T', L, E, ce, h0, X', hL, e1, e2, ⟨⟨w1, hp, hP1⟩, hF⟩, hce, hcv, hcl, st⟩
  · cases hv
    rw [h0] at hF
    rw [← e1] at hF hP1
    obtain ⟨t2, a1, b1⟩ := kk r w1 T'.heap (locs ++ L) hp (hP.trans hP1 hF hL) T' rfl X'
    exact ⟨t2, st t2 a1, b1⟩
  · rw [h0] at hF
    rw [← e1] at hF hP1 hce
    obtain ⟨t2, a1, b1⟩ := kx E ce q w1 T'.heap (locs ++ L) hp (hP.trans hP1 hF hL) hce hcv hcl T' rfl X'
    exact ⟨t2, st.trans a1, b1⟩
theorem kl_endxv {post : kl_M → Prop} {a : Array Value} (hP : kl_S G B w H0 H locs) (hr : vx_Run p l e R s m args below meth c H locs cells slots mc ms (F0 m pc ls st0) rest (kl_Qv G B post a) (kl_X G B px) (kl_fr B))
    (kx : ∀ (E : String) (ce : Cell) (q9 : Addr) (w1 : kl_M) (H1 : Heap) (locs1 : List Loc), px E w1 → kl_S G B w1 H0 H1 locs1 → H1[q9]? = some ce → ce.vm = .none → s.vm.findClass E = some ce.cls → vx_W p l e R s m args below meth c H1 locs1 (cells + mc) (slots + ms) Q (F0 m pc ls rest) q9)
    (kk : ∀ (w1 : kl_M) (H1 : Heap) (locs1 : List Loc), post w1 → kl_S G B w1 H0 H1 locs1 → W p l e R s m args below meth c H1 locs1 (cells + mc) (slots + ms) Q (F0 m (pc + 3) ls rest)) : W p l e R s m args below meth c H locs cells slots Q (F0 m pc ls st0) := by
  intro T hT X
  rcases hr T hT X with ⟨v, st₀, t, T', L, h0, X', hL, e1, e2, ⟨⟨w1, hv, hp, hP1⟩, hF⟩, st⟩ | ⟨q, st₀, t, T', L, E, ce, h0, X', hL, e1, e2, ⟨⟨w1, hp, hP1⟩, hF⟩, hce, hcv, hcl, st⟩
  · cases hv
    rw [h0] at hF
    rw [← e1] at hF hP1
    obtain ⟨t2, a1, b1⟩ := kk w1 T'.heap (locs ++ L) hp (hP.trans hP1 hF hL) T' rfl X'
    exact ⟨t2, st t2 a1, b1⟩
  · rw [h0] at hF
    rw [← e1] at hF hP1 hce
    obtain ⟨t2, a1, b1⟩ := kx E ce q w1 T'.heap (locs ++ L) hp (hP.trans hP1 hF hL) hce hcv hcl T' rfl X'
    exact ⟨t2, st.trans a1, b1⟩
theorem klx_cVi {post : Int32 → kl_M → Prop} {T : u_T} {N ci : Nat} {fs : List Value} (S : CallFix p m c cc nL s args Ts own) (hM : vx_Met l y ws rm (kl_Px G B w (.ref (B + i) :: As)) (kl_Qi G B post) (kl_X G B px) mc ms (kl_fr B)) (cw : CallW R s args own C index y bytes maxL ret ws rm mc ms n) (hK : kl_K G s) (hZ : kl_Z B s s.heap) (hP : kl_S G B w s.heap H locs) (he : w i = some (.inr (ci, fs))) (hc : vwCl[ci]? = some (C, T, N))
    (hn : As.length = n) (hsize : ls.size = nL) (hst : st0 = As.reverse ++ .ref (B + i) :: rest) (hW : (rest.map fun v => v.category).sum ≤ 8) (hdg : decode cc pc = .ok (.invokevirtual index, 3)) (hf : cells + mc ≤ R.cells ∧ slots + ms ≤ R.slots)
    (kx : ∀ (E : String) (ce : Cell) (q9 : Addr) (w1 : kl_M) (H1 : Heap) (locs1 : List Loc), px E w1 → kl_S G B w1 s.heap H1 locs1 → H1[q9]? = some ce → ce.vm = .none → s.vm.findClass E = some ce.cls → vx_W p l e R s m args below meth c H1 locs1 (cells + mc) (slots + ms) Q (F0 m pc ls rest) q9)
    (kk : ∀ (r : Int32) (w1 : kl_M) (H1 : Heap) (locs1 : List Loc), post r w1 → kl_S G B w1 s.heap H1 locs1 → W p l e R s m args below meth c H1 locs1 (cells + mc) (slots + ms) Q (F0 m (pc + 3) ls (.int r :: rest))) : W p l e R s m args below meth c H locs cells slots Q (F0 m pc ls st0) :=
  kl_endxi hP (vx_runV (C := C) (b := B + i) (g := F0 m pc ls st0) S hM cw (kl_preVx hK hZ hP he hc) rfl hn hsize hst (lv_room hW) hdg hf) kx kk
theorem klx_cVv {post : kl_M → Prop} {T : u_T} {N ci : Nat} {fs : List Value} (S : CallFix p m c cc nL s args Ts own) (hM : vx_Met l y ws rm (kl_Px G B w (.ref (B + i) :: As)) (kl_Qv G B post) (kl_X G B px) mc ms (kl_fr B)) (cw : CallW R s args own C index y bytes maxL ret ws rm mc ms n) (hK : kl_K G s) (hZ : kl_Z B s s.heap) (hP : kl_S G B w s.heap H locs) (he : w i = some (.inr (ci, fs))) (hc : vwCl[ci]? = some (C, T, N))
    (hn : As.length = n) (hsize : ls.size = nL) (hst : st0 = As.reverse ++ .ref (B + i) :: rest) (hW : (rest.map fun v => v.category).sum ≤ 8) (hdg : decode cc pc = .ok (.invokevirtual index, 3)) (hf : cells + mc ≤ R.cells ∧ slots + ms ≤ R.slots)
    (kx : ∀ (E : String) (ce : Cell) (q9 : Addr) (w1 : kl_M) (H1 : Heap) (locs1 : List Loc), px E w1 → kl_S G B w1 s.heap H1 locs1 → H1[q9]? = some ce → ce.vm = .none → s.vm.findClass E = some ce.cls → vx_W p l e R s m args below meth c H1 locs1 (cells + mc) (slots + ms) Q (F0 m pc ls rest) q9)
    (kk : ∀ (w1 : kl_M) (H1 : Heap) (locs1 : List Loc), post w1 → kl_S G B w1 s.heap H1 locs1 → W p l e R s m args below meth c H1 locs1 (cells + mc) (slots + ms) Q (F0 m (pc + 3) ls rest)) : W p l e R s m args below meth c H locs cells slots Q (F0 m pc ls st0) :=
  kl_endxv hP (vx_runV (C := C) (b := B + i) (g := F0 m pc ls st0) S hM cw (kl_preVx hK hZ hP he hc) rfl hn hsize hst (lv_room hW) hdg hf) kx kk
theorem klx_cSv {post : kl_M → Prop} (S : CallFix p m c cc nL s args Ts own) (hM : vx_Met l y ws rm (kl_Px G B w As) (kl_Qv G B post) (kl_X G B px) mc ms (kl_fr B)) (cw : CallB R s args own index y bytes maxL ret ws rm mc ms n ∧ (Cond.static y).before args s = true) (hK : kl_K G s) (hZ : kl_Z B s s.heap) (hP : kl_S G B w s.heap H locs)
    (hn : As.length = n) (hsize : ls.size = nL) (hst : st0 = As.reverse ++ rest) (hW : (rest.map fun v => v.category).sum ≤ 8) (hdg : decode cc pc = .ok (.invokestatic index, 3)) (hf : cells + mc ≤ R.cells ∧ slots + ms ≤ R.slots)
    (kx : ∀ (E : String) (ce : Cell) (q9 : Addr) (w1 : kl_M) (H1 : Heap) (locs1 : List Loc), px E w1 → kl_S G B w1 s.heap H1 locs1 → H1[q9]? = some ce → ce.vm = .none → s.vm.findClass E = some ce.cls → vx_W p l e R s m args below meth c H1 locs1 (cells + mc) (slots + ms) Q (F0 m pc ls rest) q9)
    (kk : ∀ (w1 : kl_M) (H1 : Heap) (locs1 : List Loc), post w1 → kl_S G B w1 s.heap H1 locs1 → W p l e R s m args below meth c H1 locs1 (cells + mc) (slots + ms) Q (F0 m (pc + 3) ls rest)) : W p l e R s m args below meth c H locs cells slots Q (F0 m pc ls st0) :=
  kl_endxv hP (vx_runS (g := F0 m pc ls st0) S hM cw (kl_preSx hK hZ hP) rfl hn hsize hst (lv_room hW) hdg hf) kx kk
/-- not caught: on to the caller -/
theorem kl_out {E : String} {ce : Cell} {q : Addr} (hout : ∀ x ∈ c.exceptionTable.toList, False) (hlocks : meth.locks = false) (hP : kl_S G B w s.heap H locs) (hx : px E w) (hcell : H[q]? = some ce) (hv : ce.vm = .none) (hcl : s.vm.findClass E = some ce.cls) (hc : cells ≤ mc) (hs : slots ≤ ms) :
    vx_W p l e R s m args below meth c H locs cells slots (vx_MQ below Qc (kl_X G B px) args s mc ms (kl_fr B)) (F0 m pc ls rest) q :=
  vx_out (fun x hx => (hout x hx).elim) hlocks hcell hv hcl (fun t ht _ => ⟨⟨w, hx, by rw [ht]; exact hP.1⟩, by rw [ht]; exact hP.2.1⟩) hP.2.2 hc hs
/-- new X(), thrown here -/
theorem kl_throw (hexec : p.tables.exec = Jvm.exec) (hb : c.code = cc) (hst : l.stackTraces = false) {own cls : String} {names : List String} {ik ic : Nat} {Ts : List Cond} (hts : ∀ w ∈ Ts, w.before args s = true) (hown : s.vm.findClass own = some m.cls) (hfit : Bundle.fit cls = true ∧ ∀ n ∈ names, Bundle.fit n = true)
    (hin : ∀ w ∈ Cond.classLink own ik cls :: Cond.initialized cls :: (vx_at0 own ic cls names).filter goodWord, w ∈ Ts) (hbad : ∀ w ∈ (vx_at0 own ic cls names).filter (fun w => !goodWord w), w ∈ [Cond.castable cls cls]) (hgood : ∀ w ∈ Cond.classLink own ik cls :: Cond.initialized cls :: vx_at0 own ic cls names, vx_ot w = true)
    (hcp : (cls, cls) ∈ kl_cp) (hK : kl_K G s) (hZ : kl_Z B s s.heap) (hP : kl_S G B w s.heap H locs) (hsize : ls.size = c.maxLocals)
    (d0 : decode cc pc = .ok (.new ik, 3)) (d3 : decode cc (pc + 3) = .ok (.dup, 1)) (d4 : decode cc (pc + 4) = .ok (.invokespecial ic, 3)) (d7 : decode cc (pc + 7) = .ok (.athrow, 1))
    (hout : ∀ x ∈ c.exceptionTable.toList, False) (hRframes : names.length + 3 < R.frames) (hRlocals : (rest.map fun v => v.category).sum + (13 * (names.length + 1) + 42) ≤ R.locals) (hRcells : cells + 1 ≤ R.cells) (hRslots : slots + 6 ≤ R.slots) (hlocks : meth.locks = false)
    (hx : px cls w) (hc : cells + 1 ≤ mc) (hs : slots + 6 ≤ ms) :
    W p l e R s m args below meth c H locs cells slots (vx_MQ below Qc (kl_X G B px) args s mc ms (kl_fr B)) (F0 m pc ls rest) := by
  have hS : va_S (fun q => B ≤ q) s.heap H locs := ⟨hP.2.1.1, fun q _ hn => hP.2.1.2 q (Nat.not_le.mp hn), hP.2.2⟩
  have hat : ∀ w ∈ vx_at0 own ic cls names, w.before args s = true := vx_hat (fun w hw => hts w (hin w (List.mem_cons_of_mem _ (List.mem_cons_of_mem _ hw)))) hbad (vx_c (va_Nw.use rfl (hK.2.1 _ hcp)) vx_n)
  refine vx_throw0 hexec hb hst hown hfit.1 hfit.2 (hts _ (hin _ List.mem_cons_self)) (hts _ (hin _ (List.mem_cons_of_mem _ List.mem_cons_self))) hat hgood hZ.1 hZ.2 hS hsize d0 d3 d4 d7 (fun x hx => (hout x hx).elim) hRframes hRlocals hRcells hRslots hlocks (fun t _ hz hq => ?_) hP.2.2 hc hs
  refine ⟨⟨w, hx, Nat.le_trans hP.1.1 hz, fun j e hj => (hP.1.2 j e hj).kept (hq _ (hP.1.2 j e hj).lt)⟩, Nat.le_trans hP.2.1.1 hz, fun q hq2 => (hq q (Nat.lt_of_lt_of_le hq2 hP.1.1)).trans (hP.2.1.2 q hq2)⟩
end KLX
section KLCL
variable {p : Program} {l : Launch} {e : Env} {R : Room} {s : State} {m : MethodId} {args : Array Value} {below : List Frame} {meth : Method} {c : Code} {H : Heap} {locs : List Loc} {cells slots : Nat} {Q : State → Prop}
variable {cc : ByteArray} {pc : Nat} {ls : Array Slot} {rest : List Value} {G : kl_G} {B : Nat} {w : kl_M} {H0 : Heap} {i : Nat}
theorem kl_clone (hexec : p.tables.exec = Jvm.exec) (hb : c.code = cc) (hml : c.maxLocals = ls.size) {own : String} {index : Nat} (hown : s.vm.findClass own = some m.cls)
    (hlink : (Cond.methodLink own index ⟨"[I", "clone", "()Ljava/lang/Object;"⟩).before args s = true) (hsame : (Cond.sameMethod "[I" "java/lang/Object" "clone" "()Ljava/lang/Object;").before args s = true)
    (hnat : (Cond.native ⟨"java/lang/Object", "clone", "()Ljava/lang/Object;"⟩).before args s = true) (hinst : (Cond.instanceMethod ⟨"java/lang/Object", "clone", "()Ljava/lang/Object;"⟩).before args s = true)
    (hsel : (Cond.selects "[I" ⟨"[I", "clone", "()Ljava/lang/Object;"⟩ ⟨"java/lang/Object", "clone", "()Ljava/lang/Object;"⟩).before args s = true)
    (hK : kl_K G s) (hP : kl_S G B w H0 H locs) {n : Nat} {f : Nat → Int32} (he : w i = some (kl_aI G n f))
    (hframes : 1 ≤ R.frames) (hlocals : (rest.map fun v => v.category).sum + 14 ≤ R.locals) (hcells : cells + 1 ≤ R.cells) (hslots : slots + n ≤ R.slots) (hdg : decode cc pc = .ok (.invokevirtual index, 3))
    (kk : ∀ (q : Nat) (w1 : kl_M) (H1 : Heap), H.size = B + q → w1 q = some (kl_aI G n f) → (∀ j, j ≠ q → w1 j = w j) → H1.size = H.size + 1 → kl_S G B w1 H0 H1 locs →
      W p l e R s m args below meth c H1 locs (cells + 1) (slots + n) Q (F0 m (pc + 3) ls (.ref (B + q) :: rest))) : W p l e R s m args below meth c H locs cells slots Q (F0 m pc ls (.ref (B + i) :: rest)) := by
  obtain ⟨q, hq⟩ : ∃ q, H.size = B + q := ⟨H.size - B, by have := hP.1.1; omega⟩
  have hnm : s.vm.findClass "[I" = some (G.2 0) := (hK.1.2 0 (G.2 0, .int) rfl).2
  obtain ⟨c0, t0', f1, f2, f3⟩ := Cond.castable_spec (va_Nw.use (A := args) rfl (hK.2.1 ("[I", "java/lang/Cloneable") (by decide)))
  cases hnm.symm.trans f1
  intro T hT X
  have hcellT : T.heap[B + i]? = some (vp_cell (G.2 0) (n, .inl f)) := by rw [hT]; exact hP.1.2 i _ he
  obtain ⟨-, kA, hkA, comp, hkind⟩ := State.isArrayOf_alike X.warmed.alike ((hK.1.2 0 (G.2 0, .int) rfl).1 0 (fun _ => .null))
  obtain ⟨-, kS, hkS, compS, hkindS⟩ := (hK.1.2 0 (G.2 0, .int) rfl).1 0 (fun _ => .null)
  have hsz : (vp_cell (G.2 0) (n, .inl f)).slots.size = n := arrV_size _ _ _
  obtain ⟨vm', X', st⟩ := X.cloneArray hexec hown hlink hsame hnat hinst hsel (a := B + i) (cell := vp_cell (G.2 0) (n, .inl f)) hcellT (fun k h => by cases h) (fun h => by cases h) hnm f2 f3
    (fun j v hv => by
      have hk' : T.vm.classes[G.2 0]? = some kA := hkA
      have hlt : j < n := by rw [← hsz]; exact (Array.getElem?_eq_some_iff.mp hv).1
      have hv2 : v = .int (f j) := by
        have h2 : (arrV (G.2 0) n (fun j => .int (f j))).slots[j]? = some (.int (f j)) := arrV_read _ _ hlt
        exact Option.some.inj (hv.symm.trans h2)
      subst hv2
      show State.fitsSlot T (G.2 0) _ j _ = true
      simp [State.fitsSlot, State.slotType?, hk', hkind, fits, vp_cell, arrV])
    (g := F0 m pc ls (.ref (B + i) :: rest)) rfl (by rw [hml]) rfl (by rw [hb]; exact hdg) hframes (by show 2 * 0 + _ + 14 ≤ _; omega) hcells (by rw [hsz]; exact hslots) (hloader := Vm.clonesLoader_of_array hkS hkindS)
  have hcellE : ({ cls := (vp_cell (G.2 0) (n, .inl f)).cls, slots := (vp_cell (G.2 0) (n, .inl f)).slots } : Cell) = vp_cell (G.2 0) (n, .inl f) := rfl
  rw [hcellE, hsz] at X'
  generalize hH1 : H.push (vp_cell (G.2 0) (n, .inl f)) = H1
  have z1 : H1.size = H.size + 1 := by rw [← hH1, Array.size_push]
  have e1 : H1[B + q]? = some (vp_cell (G.2 0) (n, .inl f)) := by rw [← hH1, ← hq, Array.getElem?_push_size]
  have o1 : ∀ q : Nat, q < H.size → H1[q]? = H[q]? := fun q hq => by rw [← hH1, Array.getElem?_push, if_neg (Nat.ne_of_lt hq)]
  obtain ⟨t, b1, b2⟩ := kk q _ H1 hq kl_up_self (fun j hj => kl_up_ne hj) z1 (hP.push hq z1 e1 o1)
    ((T.setVm vm').pushCell (vp_cell (G.2 0) (n, .inl f))) (by rw [← hH1, ← hT]; rfl) X'
  refine ⟨t, st t ?_, b2⟩
  rw [hcellE, hT, hq]
  exact b1
end KLCL
end
section
abbrev rm_X2_holds : Room := { frames := 0, cells := 0, slots := 0, locals := 0 }
set_option maxHeartbeats 4000000 in
set_option maxRecDepth 100000 in
theorem c_X2_holds (l : Launch) (G : kl_G) (B : Nat) (w : kl_M) (i a b : Nat) {T C : Nat → Int32} (p : Nat) (t : Int32) (h0 : w i = some (.inr (2, [.ref (B + a), .ref (B + b)]))) (h1 : w a = some (kl_aI G 24 T)) (h2 : w b = some (kl_aI G 96 C)) (hp : p < 24) : Met l yX2_holds wsX2_holds rm_X2_holds (kl_Pc G B w [.ref (B + i), .int (nI p), .int t]) (kl_Qi G B (fun r w1 => w = w1 ∧ kl_b r (T p = t))) 0 0 (kl_fr B) := by
  refine Met.ofW (cc := cX2_holds) (maxL := 3) (ret := (some .boolean)) (by decide) rfl ?_
  intro pg e s m args below meth cd s₁ Bd hml hv
  obtain ⟨rfl, hP0, hK⟩ := hv
  have hx := Bd.exec
  have hb := Bd.bytes
  have hr := Bd.returns
  have hts := atoms_spec (ws := wsX2_holds) Bd.pre
  have hown : s.vm.findClass RX2 = some m.cls := findClass_of_methodNamed Bd.named
  have hlocks := Bd.notSynchronized
  have hinX2 : ∀ w ∈ u_ws RX2 TX2 2, w ∈ wsX2_holds := by decide +kernel
  have hP := kl_S.rf hP0
  have hl := lv_entry ([.ref (B + i), .int (nI p), .int t]) (n := 3) (Nat.le_of_ble_eq_true rfl)
  rw [lg_entry_eq]
  generalize (lg_sl ([.ref (B + i), .int (nI p), .int t]) ++ List.replicate (3 - (lg_sl ([.ref (B + i), .int (nI p), .int t])).length) Slot.unset).toArray = ls at hl ⊢
  have hl : lv_has ls 3 [(0, .ref (B + i)), (1, .int (nI p)), (2, .int t)] := hl
  refine lv_aload_n hx hb dX2_holds_0 rfl (lv_at hl 0 rfl) ?_
  refine kl_get (C := RX2) (T := TX2) (N := 2) (ci := 2) hx hb hts hinX2 hown hK hP h0 rfl 0 (by decide) (hts (.fieldLink RX2 9 "KinLedger$Rows" "tables" "[I") (by decide +kernel)) (fun _ h9 => h9) rfl dX2_holds_1 ?_
  refine lv_iload_n hx hb dX2_holds_4 rfl (lv_at hl 1 rfl) ?_
  refine kl_iald hx hb hK hP h1 (by omega) (by omega) dX2_holds_5 ?_
  refine lv_iload_n hx hb dX2_holds_6 rfl (lv_at hl 2 rfl) ?_
  refine lv_icmp_ne (tgt := 14) hx hb dX2_holds_7 (by decide) (fun c7 => ?_) (fun c7 => ?_)
  · refine lv_iconst (v := nI 0) hx hb dX2_holds_14 (by decide) ?_
    exact kl_zret hx hb hr hlocks (by decide) hP ⟨rfl, kl_b.f c7⟩ dX2_holds_15
  · refine lv_iconst (v := nI 1) hx hb dX2_holds_10 (by decide) ?_
    refine lv_goto (tgt := 15) hx hb dX2_holds_11 (by decide) ?_
    exact kl_zret hx hb hr hlocks (by decide) hP ⟨rfl, kl_b.t c7⟩ dX2_holds_15

abbrev rm_X2_at : Room := { frames := 0, cells := 0, slots := 0, locals := 0 }
set_option maxHeartbeats 4000000 in
set_option maxRecDepth 100000 in
theorem c_X2_at (l : Launch) (G : kl_G) (B : Nat) (w : kl_M) (i a b : Nat) {T C : Nat → Int32} (p c : Nat) (h0 : w i = some (.inr (2, [.ref (B + a), .ref (B + b)]))) (h1 : w a = some (kl_aI G 24 T)) (h2 : w b = some (kl_aI G 96 C)) (hp : p < 24) (hc : c < 4) : Met l yX2_at wsX2_at rm_X2_at (kl_Pc G B w [.ref (B + i), .int (nI p), .int (nI c)]) (kl_Qi G B (fun r w1 => w = w1 ∧ r = C (4 * p + c))) 0 0 (kl_fr B) := by
  refine Met.ofW (cc := cX2_at) (maxL := 3) (ret := (some .int)) (by decide) rfl ?_
  intro pg e s m args below meth cd s₁ Bd hml hv
  obtain ⟨rfl, hP0, hK⟩ := hv
  have hx := Bd.exec
  have hb := Bd.bytes
  have hr := Bd.returns
  have hts := atoms_spec (ws := wsX2_at) Bd.pre
  have hown : s.vm.findClass RX2 = some m.cls := findClass_of_methodNamed Bd.named
  have hlocks := Bd.notSynchronized
  have hinX2 : ∀ w ∈ u_ws RX2 TX2 2, w ∈ wsX2_at := by decide +kernel
  have hP := kl_S.rf hP0
  have hl := lv_entry ([.ref (B + i), .int (nI p), .int (nI c)]) (n := 3) (Nat.le_of_ble_eq_true rfl)
  rw [lg_entry_eq]
  generalize (lg_sl ([.ref (B + i), .int (nI p), .int (nI c)]) ++ List.replicate (3 - (lg_sl ([.ref (B + i), .int (nI p), .int (nI c)])).length) Slot.unset).toArray = ls at hl ⊢
  have hl : lv_has ls 3 [(0, .ref (B + i)), (1, .int (nI p)), (2, .int (nI c))] := hl
  refine lv_aload_n hx hb dX2_at_0 rfl (lv_at hl 0 rfl) ?_
  refine kl_get (C := RX2) (T := TX2) (N := 2) (ci := 2) hx hb hts hinX2 hown hK hP h0 rfl 1 (by decide) (hts (.fieldLink RX2 15 "KinLedger$Rows" "cells" "[I") (by decide +kernel)) (fun _ h9 => h9) rfl dX2_at_1 ?_
  refine lv_iload_n hx hb dX2_at_4 rfl (lv_at hl 1 rfl) ?_
  refine lv_iconst (v := nI 4) hx hb dX2_at_5 (by decide) ?_
  refine lv_imul hx hb dX2_at_6 ?_
  refine kl_top (z := nI (4 * p)) ((pk_mul _ _).trans (congrArg nI (Nat.mul_comm _ _))) ?_
  refine lv_iload_n hx hb dX2_at_7 rfl (lv_at hl 2 rfl) ?_
  refine lv_iadd hx hb dX2_at_8 ?_
  refine kl_top (z := nI (4 * p + c)) (by first | exact nI_add _ _ | (rw [nI_add]; first | rfl | (congr 1; omega))) ?_
  refine kl_iald hx hb hK hP h2 (by omega) (by omega) dX2_at_9 ?_
  exact kl_iret hx hb hr hlocks hP ⟨rfl, rfl⟩ dX2_at_10

abbrev rm_X2_put : Room := { frames := 0, cells := 0, slots := 0, locals := 0 }
set_option maxHeartbeats 4000000 in
set_option maxRecDepth 100000 in
theorem c_X2_put (l : Launch) (G : kl_G) (B : Nat) (w : kl_M) (i a b : Nat) {T C : Nat → Int32} (p c : Nat) (x : Int32) (h0 : w i = some (.inr (2, [.ref (B + a), .ref (B + b)]))) (h1 : w a = some (kl_aI G 24 T)) (h2 : w b = some (kl_aI G 96 C)) (hp : p < 24) (hc : c < 4) (nib : i ≠ b) (nab : a ≠ b) : Met l yX2_put wsX2_put rm_X2_put (kl_Pc G B w [.ref (B + i), .int (nI p), .int (nI c), .int x]) (kl_Qv G B (fun w1 => w1 b = some (kl_aI G 96 (upd C (4 * p + c) x)) ∧ ∀ j, j ≠ b → w1 j = w j)) 0 0 (kl_fr B) := by
  refine Met.ofW (cc := cX2_put) (maxL := 4) (ret := none) (by decide) rfl ?_
  intro pg e s m args below meth cd s₁ Bd hml hv
  obtain ⟨rfl, hP0, hK⟩ := hv
  have hx := Bd.exec
  have hb := Bd.bytes
  have hr := Bd.returns
  have hts := atoms_spec (ws := wsX2_put) Bd.pre
  have hown : s.vm.findClass RX2 = some m.cls := findClass_of_methodNamed Bd.named
  have hlocks := Bd.notSynchronized
  have hinX2 : ∀ w ∈ u_ws RX2 TX2 2, w ∈ wsX2_put := by decide +kernel
  have hP := kl_S.rf hP0
  have hl := lv_entry ([.ref (B + i), .int (nI p), .int (nI c), .int x]) (n := 4) (Nat.le_of_ble_eq_true rfl)
  rw [lg_entry_eq]
  generalize (lg_sl ([.ref (B + i), .int (nI p), .int (nI c), .int x]) ++ List.replicate (4 - (lg_sl ([.ref (B + i), .int (nI p), .int (nI c), .int x])).length) Slot.unset).toArray = ls at hl ⊢
  have hl : lv_has ls 4 [(0, .ref (B + i)), (1, .int (nI p)), (2, .int (nI c)), (3, .int x)] := hl
  refine lv_aload_n hx hb dX2_put_0 rfl (lv_at hl 0 rfl) ?_
  refine kl_get (C := RX2) (T := TX2) (N := 2) (ci := 2) hx hb hts hinX2 hown hK hP h0 rfl 1 (by decide) (hts (.fieldLink RX2 15 "KinLedger$Rows" "cells" "[I") (by decide +kernel)) (fun _ h9 => h9) rfl dX2_put_1 ?_
  refine lv_iload_n hx hb dX2_put_4 rfl (lv_at hl 1 rfl) ?_
  refine lv_iconst (v := nI 4) hx hb dX2_put_5 (by decide) ?_
  refine lv_imul hx hb dX2_put_6 ?_
  refine kl_top (z := nI (4 * p)) ((pk_mul _ _).trans (congrArg nI (Nat.mul_comm _ _))) ?_
  refine lv_iload_n hx hb dX2_put_7 rfl (lv_at hl 2 rfl) ?_
  refine lv_iadd hx hb dX2_put_8 ?_
  refine kl_top (z := nI (4 * p + c)) (by first | exact nI_add _ _ | (rw [nI_add]; first | rfl | (congr 1; omega))) ?_
  refine lv_iload_n hx hb dX2_put_9 rfl (lv_at hl 3 rfl) ?_
  refine kl_iast hx hb hK hP h2 (by omega) (by omega) dX2_put_10 (fun w1 H locs f2 fr3 hzw1 hP => ?_)
  have h0 : w1 i = some (.inr (2, [.ref (B + a), .ref (B + b)])) := (fr3 _ (by omega)).trans h0
  have h1 : w1 a = some (kl_aI G 24 T) := (fr3 _ (by omega)).trans h1
  exact kl_vret hx hb hr hlocks hP ⟨f2, fr3⟩ dX2_put_11

abbrev rm_X2_add : Room := { frames := 0, cells := 0, slots := 0, locals := 0 }
set_option maxHeartbeats 4000000 in
set_option maxRecDepth 100000 in
theorem c_X2_add (l : Launch) (G : kl_G) (B : Nat) (w : kl_M) (i a b : Nat) {T C : Nat → Int32} (p : Nat) (t : Int32) (h0 : w i = some (.inr (2, [.ref (B + a), .ref (B + b)]))) (h1 : w a = some (kl_aI G 24 T)) (h2 : w b = some (kl_aI G 96 C)) (hp : p < 24) (nia : i ≠ a) (nba : b ≠ a) : Met l yX2_add wsX2_add rm_X2_add (kl_Pc G B w [.ref (B + i), .int (nI p), .int t]) (kl_Qv G B (fun w1 => w1 a = some (kl_aI G 24 (upd T p t)) ∧ ∀ j, j ≠ a → w1 j = w j)) 0 0 (kl_fr B) := by
  refine Met.ofW (cc := cX2_add) (maxL := 3) (ret := none) (by decide) rfl ?_
  intro pg e s m args below meth cd s₁ Bd hml hv
  obtain ⟨rfl, hP0, hK⟩ := hv
  have hx := Bd.exec
  have hb := Bd.bytes
  have hr := Bd.returns
  have hts := atoms_spec (ws := wsX2_add) Bd.pre
  have hown : s.vm.findClass RX2 = some m.cls := findClass_of_methodNamed Bd.named
  have hlocks := Bd.notSynchronized
  have hinX2 : ∀ w ∈ u_ws RX2 TX2 2, w ∈ wsX2_add := by decide +kernel
  have hP := kl_S.rf hP0
  have hl := lv_entry ([.ref (B + i), .int (nI p), .int t]) (n := 3) (Nat.le_of_ble_eq_true rfl)
  rw [lg_entry_eq]
  generalize (lg_sl ([.ref (B + i), .int (nI p), .int t]) ++ List.replicate (3 - (lg_sl ([.ref (B + i), .int (nI p), .int t])).length) Slot.unset).toArray = ls at hl ⊢
  have hl : lv_has ls 3 [(0, .ref (B + i)), (1, .int (nI p)), (2, .int t)] := hl
  refine lv_aload_n hx hb dX2_add_0 rfl (lv_at hl 0 rfl) ?_
  refine kl_get (C := RX2) (T := TX2) (N := 2) (ci := 2) hx hb hts hinX2 hown hK hP h0 rfl 0 (by decide) (hts (.fieldLink RX2 9 "KinLedger$Rows" "tables" "[I") (by decide +kernel)) (fun _ h9 => h9) rfl dX2_add_1 ?_
  refine lv_iload_n hx hb dX2_add_4 rfl (lv_at hl 1 rfl) ?_
  refine lv_iload_n hx hb dX2_add_5 rfl (lv_at hl 2 rfl) ?_
  refine kl_iast hx hb hK hP h1 (by omega) (by omega) dX2_add_6 (fun w1 H locs f2 fr3 hzw1 hP => ?_)
  have h0 : w1 i = some (.inr (2, [.ref (B + a), .ref (B + b)])) := (fr3 _ (by omega)).trans h0
  have h2 : w1 b = some (kl_aI G 96 C) := (fr3 _ (by omega)).trans h2
  exact kl_vret hx hb hr hlocks hP ⟨f2, fr3⟩ dX2_add_7

abbrev rm_X2_remove : Room := { frames := 0, cells := 0, slots := 0, locals := 0 }
set_option maxHeartbeats 4000000 in
set_option maxRecDepth 100000 in
theorem c_X2_remove (l : Launch) (G : kl_G) (B : Nat) (w : kl_M) (i a b : Nat) {T C : Nat → Int32} (p : Nat) (h0 : w i = some (.inr (2, [.ref (B + a), .ref (B + b)]))) (h1 : w a = some (kl_aI G 24 T)) (h2 : w b = some (kl_aI G 96 C)) (hp : p < 24) (nia : i ≠ a) (nba : b ≠ a) : Met l yX2_remove wsX2_remove rm_X2_remove (kl_Pc G B w [.ref (B + i), .int (nI p)]) (kl_Qv G B (fun w1 => w1 a = some (kl_aI G 24 (upd T p (-1))) ∧ ∀ j, j ≠ a → w1 j = w j)) 0 0 (kl_fr B) := by
  refine Met.ofW (cc := cX2_remove) (maxL := 2) (ret := none) (by decide) rfl ?_
  intro pg e s m args below meth cd s₁ Bd hml hv
  obtain ⟨rfl, hP0, hK⟩ := hv
  have hx := Bd.exec
  have hb := Bd.bytes
  have hr := Bd.returns
  have hts := atoms_spec (ws := wsX2_remove) Bd.pre
  have hown : s.vm.findClass RX2 = some m.cls := findClass_of_methodNamed Bd.named
  have hlocks := Bd.notSynchronized
  have hinX2 : ∀ w ∈ u_ws RX2 TX2 2, w ∈ wsX2_remove := by decide +kernel
  have hP := kl_S.rf hP0
  have hl := lv_entry ([.ref (B + i), .int (nI p)]) (n := 2) (Nat.le_of_ble_eq_true rfl)
  rw [lg_entry_eq]
  generalize (lg_sl ([.ref (B + i), .int (nI p)]) ++ List.replicate (2 - (lg_sl ([.ref (B + i), .int (nI p)])).length) Slot.unset).toArray = ls at hl ⊢
  have hl : lv_has ls 2 [(0, .ref (B + i)), (1, .int (nI p))] := hl
  refine lv_aload_n hx hb dX2_remove_0 rfl (lv_at hl 0 rfl) ?_
  refine kl_get (C := RX2) (T := TX2) (N := 2) (ci := 2) hx hb hts hinX2 hown hK hP h0 rfl 0 (by decide) (hts (.fieldLink RX2 9 "KinLedger$Rows" "tables" "[I") (by decide +kernel)) (fun _ h9 => h9) rfl dX2_remove_1 ?_
  refine lv_iload_n hx hb dX2_remove_4 rfl (lv_at hl 1 rfl) ?_
  refine lv_iconst (v := (-1)) hx hb dX2_remove_5 (by decide) ?_
  refine kl_iast hx hb hK hP h1 (by omega) (by omega) dX2_remove_6 (fun w1 H locs f2 fr3 hzw1 hP => ?_)
  have h0 : w1 i = some (.inr (2, [.ref (B + a), .ref (B + b)])) := (fr3 _ (by omega)).trans h0
  have h2 : w1 b = some (kl_aI G 96 C) := (fr3 _ (by omega)).trans h2
  exact kl_vret hx hb hr hlocks hP ⟨f2, fr3⟩ dX2_remove_7

abbrev rm_X2_freePlace : Room := { frames := 0, cells := 0, slots := 0, locals := 0 }
set_option maxHeartbeats 4000000 in
set_option maxRecDepth 100000 in
theorem c_X2_freePlace (l : Launch) (G : kl_G) (B : Nat) (w : kl_M) (i a b : Nat) {T C : Nat → Int32} (h0 : w i = some (.inr (2, [.ref (B + a), .ref (B + b)]))) (h1 : w a = some (kl_aI G 24 T)) (h2 : w b = some (kl_aI G 96 C))  : Met l yX2_freePlace wsX2_freePlace rm_X2_freePlace (kl_Pc G B w [.ref (B + i)]) (kl_Qi G B (fun r w1 => w = w1 ∧ mt_free T r)) 0 0 (kl_fr B) := by
  refine Met.ofW (cc := cX2_freePlace) (maxL := 2) (ret := (some .int)) (by decide) rfl ?_
  intro pg e s m args below meth cd s₁ Bd hml hv
  obtain ⟨rfl, hP0, hK⟩ := hv
  have hx := Bd.exec
  have hb := Bd.bytes
  have hr := Bd.returns
  have hts := atoms_spec (ws := wsX2_freePlace) Bd.pre
  have hown : s.vm.findClass RX2 = some m.cls := findClass_of_methodNamed Bd.named
  have hlocks := Bd.notSynchronized
  have hinX2 : ∀ w ∈ u_ws RX2 TX2 2, w ∈ wsX2_freePlace := by decide +kernel
  have hP := kl_S.rf hP0
  have hl := lv_entry ([.ref (B + i)]) (n := 2) (Nat.le_of_ble_eq_true rfl)
  rw [lg_entry_eq]
  generalize (lg_sl ([.ref (B + i)]) ++ List.replicate (2 - (lg_sl ([.ref (B + i)])).length) Slot.unset).toArray = ls at hl ⊢
  have hl : lv_has ls 2 [(0, .ref (B + i))] := hl
  refine lv_iconst (v := nI 0) hx hb dX2_freePlace_0 (by decide) ?_
  refine lv_istore_n (lv' := [(1, .int (nI 0)), (0, .ref (B + i))]) hx hb dX2_freePlace_1 rfl hl (by decide) rfl (fun ls hl => ?_)
  have lp2 : ∀ (n2 : Nat) (p : Nat), 24 - p < n2 → (p ≤ 24) → (∀ q, q < p → ¬ T q = -1) → ∀ (H : Heap) (locs : List Loc), kl_S G B w s.heap H locs → ∀ ls : Array Slot, lv_has ls 2 [(0, .ref (B + i)), (1, .int (nI p))] → W pg l e rm_X2_freePlace s m ([.ref (B + i)] : List Value).toArray below meth cd H locs (0) (0) (MQ below (kl_Qi G B (fun r w1 => w = w1 ∧ mt_free T r)) ([.ref (B + i)] : List Value).toArray s 0 0 (kl_fr B)) (F0 m 2 ls []) := by
    intro n2
    induction n2 with
    | zero => intro p hm; exact absurd hm (Nat.not_lt_zero _)
    | succ n2 ih2 =>
      intro p hm hp hno H locs  hP ls hl
      refine lv_iload_n hx hb dX2_freePlace_2 rfl (lv_at hl 1 rfl) ?_
      refine lv_bipush (v := nI 24) hx hb dX2_freePlace_3 (by decide) ?_
      refine kl_ge (tgt := 26) hx hb (by omega) (by omega) dX2_freePlace_5 (by decide) (fun c5 => ?_) (fun c5 => ?_)
      · refine lv_iconst (v := (-1)) hx hb dX2_freePlace_26 (by decide) ?_
        exact kl_iret hx hb hr hlocks hP ⟨rfl, Or.inl ⟨rfl, fun q hq => hno q (by omega)⟩⟩ dX2_freePlace_27
      · refine lv_aload_n hx hb dX2_freePlace_8 rfl (lv_at hl 0 rfl) ?_
        refine kl_get (C := RX2) (T := TX2) (N := 2) (ci := 2) hx hb hts hinX2 hown hK hP h0 rfl 0 (by decide) (hts (.fieldLink RX2 9 "KinLedger$Rows" "tables" "[I") (by decide +kernel)) (fun _ h9 => h9) rfl dX2_freePlace_9 ?_
        refine lv_iload_n hx hb dX2_freePlace_12 rfl (lv_at hl 1 rfl) ?_
        refine kl_iald hx hb hK hP h1 (by omega) (by omega) dX2_freePlace_13 ?_
        refine lv_iconst (v := (-1)) hx hb dX2_freePlace_14 (by decide) ?_
        refine lv_icmp_ne (tgt := 20) hx hb dX2_freePlace_15 (by decide) (fun c15 => ?_) (fun c15 => ?_)
        · refine lv_iinc (v := nI (p + 1)) (lv' := [(1, .int (nI (p + 1))), (0, .ref (B + i))]) hx hb dX2_freePlace_20 hl (k := 1) rfl (nI_1 _) (by decide) rfl (fun ls hl => ?_)
          refine lv_goto (tgt := 2) hx hb dX2_freePlace_23 (by decide) ?_
          exact ih2 (p + 1) (by omega) (by first | omega | grind) (by first | omega | grind) _ _ hP ls (lv_sub hl [1, 0] rfl)
        · refine lv_iload_n hx hb dX2_freePlace_18 rfl (lv_at hl 1 rfl) ?_
          exact kl_iret hx hb hr hlocks hP ⟨rfl, Or.inr ⟨p, by omega, rfl, c15⟩⟩ dX2_freePlace_19
  exact lp2 (24 + 1) 0 (Nat.lt_succ_of_le (by omega)) (by first | omega | grind) (by first | omega | grind) _ _ hP ls (lv_sub hl [1, 0] rfl)

abbrev rm_X2_size : Room := { frames := 0, cells := 0, slots := 0, locals := 0 }
set_option maxHeartbeats 4000000 in
set_option maxRecDepth 100000 in
theorem c_X2_size (l : Launch) (G : kl_G) (B : Nat) (w : kl_M) (i a b : Nat) {T C : Nat → Int32} (t : Int32) (h0 : w i = some (.inr (2, [.ref (B + a), .ref (B + b)]))) (h1 : w a = some (kl_aI G 24 T)) (h2 : w b = some (kl_aI G 96 C))  : Met l yX2_size wsX2_size rm_X2_size (kl_Pc G B w [.ref (B + i), .int t]) (kl_Qi G B (fun r w1 => w = w1 ∧ r = nI (mt_ct (fun q => T q = t) 24))) 0 0 (kl_fr B) := by
  refine Met.ofW (cc := cX2_size) (maxL := 4) (ret := (some .int)) (by decide) rfl ?_
  intro pg e s m args below meth cd s₁ Bd hml hv
  obtain ⟨rfl, hP0, hK⟩ := hv
  have hx := Bd.exec
  have hb := Bd.bytes
  have hr := Bd.returns
  have hts := atoms_spec (ws := wsX2_size) Bd.pre
  have hown : s.vm.findClass RX2 = some m.cls := findClass_of_methodNamed Bd.named
  have hlocks := Bd.notSynchronized
  have hinX2 : ∀ w ∈ u_ws RX2 TX2 2, w ∈ wsX2_size := by decide +kernel
  have hP := kl_S.rf hP0
  have hl := lv_entry ([.ref (B + i), .int t]) (n := 4) (Nat.le_of_ble_eq_true rfl)
  rw [lg_entry_eq]
  generalize (lg_sl ([.ref (B + i), .int t]) ++ List.replicate (4 - (lg_sl ([.ref (B + i), .int t])).length) Slot.unset).toArray = ls at hl ⊢
  have hl : lv_has ls 4 [(0, .ref (B + i)), (1, .int t)] := hl
  refine lv_iconst (v := nI 0) hx hb dX2_size_0 (by decide) ?_
  refine lv_istore_n (lv' := [(2, .int (nI 0)), (0, .ref (B + i)), (1, .int t)]) hx hb dX2_size_1 rfl hl (by decide) rfl (fun ls hl => ?_)
  refine lv_iconst (v := nI 0) hx hb dX2_size_2 (by decide) ?_
  refine lv_istore_n (lv' := [(3, .int (nI 0)), (2, .int (nI 0)), (0, .ref (B + i)), (1, .int t)]) hx hb dX2_size_3 rfl hl (by decide) rfl (fun ls hl => ?_)
  have lp4 : ∀ (n4 : Nat) (p : Nat) (k : Nat), 24 - p < n4 → (p ≤ 24) → (k = mt_ct (fun q => T q = t) p) → ∀ (H : Heap) (locs : List Loc), kl_S G B w s.heap H locs → ∀ ls : Array Slot, lv_has ls 4 [(0, .ref (B + i)), (1, .int t), (2, .int (nI k)), (3, .int (nI p))] → W pg l e rm_X2_size s m ([.ref (B + i), .int t] : List Value).toArray below meth cd H locs (0) (0) (MQ below (kl_Qi G B (fun r w1 => w = w1 ∧ r = nI (mt_ct (fun q => T q = t) 24))) ([.ref (B + i), .int t] : List Value).toArray s 0 0 (kl_fr B)) (F0 m 4 ls []) := by
    intro n4
    induction n4 with
    | zero => intro p k hm; exact absurd hm (Nat.not_lt_zero _)
    | succ n4 ih4 =>
      intro p k hm hp hk H locs  hP ls hl
      refine lv_iload_n hx hb dX2_size_4 rfl (lv_at hl 3 rfl) ?_
      refine lv_bipush (v := nI 24) hx hb dX2_size_5 (by decide) ?_
      refine kl_ge (tgt := 29) hx hb (by omega) (by omega) dX2_size_7 (by decide) (fun c7 => ?_) (fun c7 => ?_)
      · refine lv_iload_n hx hb dX2_size_29 rfl (lv_at hl 2 rfl) ?_
        exact kl_iret hx hb hr hlocks hP ⟨rfl, by rw [hk, show p = 24 by omega]⟩ dX2_size_30
      · refine lv_aload_n hx hb dX2_size_10 rfl (lv_at hl 0 rfl) ?_
        refine kl_get (C := RX2) (T := TX2) (N := 2) (ci := 2) hx hb hts hinX2 hown hK hP h0 rfl 0 (by decide) (hts (.fieldLink RX2 9 "KinLedger$Rows" "tables" "[I") (by decide +kernel)) (fun _ h9 => h9) rfl dX2_size_11 ?_
        refine lv_iload_n hx hb dX2_size_14 rfl (lv_at hl 3 rfl) ?_
        refine kl_iald hx hb hK hP h1 (by omega) (by omega) dX2_size_15 ?_
        refine lv_iload_n hx hb dX2_size_16 rfl (lv_at hl 1 rfl) ?_
        refine lv_icmp_ne (tgt := 23) hx hb dX2_size_17 (by decide) (fun c17 => ?_) (fun c17 => ?_)
        · refine lv_iinc (v := nI (p + 1)) (lv' := [(3, .int (nI (p + 1))), (0, .ref (B + i)), (1, .int t), (2, .int (nI k))]) hx hb dX2_size_23 hl (k := 3) rfl (nI_1 _) (by decide) rfl (fun ls hl => ?_)
          refine lv_goto (tgt := 4) hx hb dX2_size_26 (by decide) ?_
          exact ih4 (p + 1) k (by omega) (by first | omega | grind) (by rw [mt_ct_n c17, ← hk]) _ _ hP ls (lv_sub hl [1, 2, 3, 0] rfl)
        · refine lv_iinc (v := nI (k + 1)) (lv' := [(2, .int (nI (k + 1))), (0, .ref (B + i)), (1, .int t), (3, .int (nI p))]) hx hb dX2_size_20 hl (k := 2) rfl (nI_1 _) (by decide) rfl (fun ls hl => ?_)
          refine lv_iinc (v := nI (p + 1)) (lv' := [(3, .int (nI (p + 1))), (2, .int (nI (k + 1))), (0, .ref (B + i)), (1, .int t)]) hx hb dX2_size_23 hl (k := 3) rfl (nI_1 _) (by decide) rfl (fun ls hl => ?_)
          refine lv_goto (tgt := 4) hx hb dX2_size_26 (by decide) ?_
          exact ih4 (p + 1) (k + 1) (by omega) (by first | omega | grind) (by rw [mt_ct_y c17, ← hk]) _ _ hP ls (lv_sub hl [2, 3, 1, 0] rfl)
  exact lp4 (24 + 1) 0 0 (Nat.lt_succ_of_le (by omega)) (by first | omega | grind) rfl _ _ hP ls (lv_sub hl [2, 3, 1, 0] rfl)

abbrev rm_X2_find : Room := { frames := 1, cells := 0, slots := 0, locals := 22 }
set_option maxHeartbeats 4000000 in
set_option maxRecDepth 100000 in
theorem c_X2_find (l : Launch) (G : kl_G) (B : Nat) (w : kl_M) (i a b : Nat) {T C : Nat → Int32} (t k : Int32) (h0 : w i = some (.inr (2, [.ref (B + a), .ref (B + b)]))) (h1 : w a = some (kl_aI G 24 T)) (h2 : w b = some (kl_aI G 96 C))  : Met l yX2_find wsX2_find rm_X2_find (kl_Pc G B w [.ref (B + i), .int t, .int k]) (kl_Qi G B (fun r w1 => w = w1 ∧ mt_find T C t k r)) 0 0 (kl_fr B) := by
  refine Met.ofW (cc := cX2_find) (maxL := 4) (ret := (some .int)) (by decide) rfl ?_
  intro pg e s m args below meth cd s₁ Bd hml hv
  obtain ⟨rfl, hP0, hK⟩ := hv
  have hx := Bd.exec
  have hb := Bd.bytes
  have hr := Bd.returns
  have hts := atoms_spec (ws := wsX2_find) Bd.pre
  have hown : s.vm.findClass RX2 = some m.cls := findClass_of_methodNamed Bd.named
  have hlocks := Bd.notSynchronized
  have hinX2 : ∀ w ∈ u_ws RX2 TX2 2, w ∈ wsX2_find := by decide +kernel
  have hP := kl_S.rf hP0
  have hl := lv_entry ([.ref (B + i), .int t, .int k]) (n := 4) (Nat.le_of_ble_eq_true rfl)
  rw [lg_entry_eq]
  generalize (lg_sl ([.ref (B + i), .int t, .int k]) ++ List.replicate (4 - (lg_sl ([.ref (B + i), .int t, .int k])).length) Slot.unset).toArray = ls at hl ⊢
  have hl : lv_has ls 4 [(0, .ref (B + i)), (1, .int t), (2, .int k)] := hl
  refine lv_iconst (v := nI 0) hx hb dX2_find_0 (by decide) ?_
  refine lv_istore_n (lv' := [(3, .int (nI 0)), (0, .ref (B + i)), (1, .int t), (2, .int k)]) hx hb dX2_find_1 rfl hl (by decide) rfl (fun ls hl => ?_)
  have lp2 : ∀ (n2 : Nat) (p : Nat), 24 - p < n2 → (p ≤ 24) → (∀ q, q < p → ¬ (T q = t ∧ C (4 * q) = k)) → ∀ (H : Heap) (locs : List Loc), kl_S G B w s.heap H locs → ∀ ls : Array Slot, lv_has ls 4 [(0, .ref (B + i)), (1, .int t), (2, .int k), (3, .int (nI p))] → W pg l e rm_X2_find s m ([.ref (B + i), .int t, .int k] : List Value).toArray below meth cd H locs (0) (0) (MQ below (kl_Qi G B (fun r w1 => w = w1 ∧ mt_find T C t k r)) ([.ref (B + i), .int t, .int k] : List Value).toArray s 0 0 (kl_fr B)) (F0 m 2 ls []) := by
    intro n2
    induction n2 with
    | zero => intro p hm; exact absurd hm (Nat.not_lt_zero _)
    | succ n2 ih2 =>
      intro p hm hp hno H locs  hP ls hl
      refine lv_iload_n hx hb dX2_find_2 rfl (lv_at hl 3 rfl) ?_
      refine lv_bipush (v := nI 24) hx hb dX2_find_3 (by decide) ?_
      refine kl_ge (tgt := 36) hx hb (by omega) (by omega) dX2_find_5 (by decide) (fun c5 => ?_) (fun c5 => ?_)
      · refine lv_iconst (v := (-1)) hx hb dX2_find_36 (by decide) ?_
        exact kl_iret hx hb hr hlocks hP ⟨rfl, Or.inl ⟨rfl, fun q hq => hno q (by omega)⟩⟩ dX2_find_37
      · refine lv_aload_n hx hb dX2_find_8 rfl (lv_at hl 0 rfl) ?_
        refine kl_get (C := RX2) (T := TX2) (N := 2) (ci := 2) hx hb hts hinX2 hown hK hP h0 rfl 0 (by decide) (hts (.fieldLink RX2 9 "KinLedger$Rows" "tables" "[I") (by decide +kernel)) (fun _ h9 => h9) rfl dX2_find_9 ?_
        refine lv_iload_n hx hb dX2_find_12 rfl (lv_at hl 3 rfl) ?_
        refine kl_iald hx hb hK hP h1 (by omega) (by omega) dX2_find_13 ?_
        refine lv_iload_n hx hb dX2_find_14 rfl (lv_at hl 1 rfl) ?_
        refine lv_icmp_ne (tgt := 30) hx hb dX2_find_15 (by decide) (fun c15 => ?_) (fun c15 => ?_)
        · refine lv_iinc (v := nI (p + 1)) (lv' := [(3, .int (nI (p + 1))), (0, .ref (B + i)), (1, .int t), (2, .int k)]) hx hb dX2_find_30 hl (k := 3) rfl (nI_1 _) (by decide) rfl (fun ls hl => ?_)
          refine lv_goto (tgt := 2) hx hb dX2_find_33 (by decide) ?_
          exact ih2 (p + 1) (by omega) (by first | omega | grind) (by first | omega | grind) _ _ hP ls (lv_sub hl [1, 2, 3, 0] rfl)
        · refine lv_aload_n hx hb dX2_find_18 rfl (lv_at hl 0 rfl) ?_
          refine lv_iload_n hx hb dX2_find_19 rfl (lv_at hl 3 rfl) ?_
          refine lv_iconst (v := nI 0) hx hb dX2_find_20 (by decide) ?_
          refine kl_cVi (C := RX2) (i := i) (As := [.int (nI p), .int (nI 0)]) (rest := []) ⟨hx, hb, hml, hown, hts⟩ (c_X2_at l G B _ i a b p 0 h0 h1 h2 (by omega) (by omega)) (cwV 2 hts gX2_find_X2_at rfl rfl rfl (by decide +kernel) ⟨Nat.le_of_ble_eq_true rfl, Nat.le_of_ble_eq_true rfl⟩) hK hP h0 rfl rfl hl.1 rfl (Nat.le_of_ble_eq_true rfl) dX2_find_21 ⟨Nat.le_of_ble_eq_true rfl, Nat.le_of_ble_eq_true rfl⟩ (fun r3 w1 H locs q2 hP => ?_)
          obtain ⟨rfl, rfl⟩ := q2
          refine kl_top (z := C (4 * p)) rfl ?_
          refine lv_iload_n hx hb dX2_find_24 rfl (lv_at hl 2 rfl) ?_
          refine lv_icmp_ne (tgt := 30) hx hb dX2_find_25 (by decide) (fun c25 => ?_) (fun c25 => ?_)
          · refine lv_iinc (v := nI (p + 1)) (lv' := [(3, .int (nI (p + 1))), (0, .ref (B + i)), (1, .int t), (2, .int k)]) hx hb dX2_find_30 hl (k := 3) rfl (nI_1 _) (by decide) rfl (fun ls hl => ?_)
            refine lv_goto (tgt := 2) hx hb dX2_find_33 (by decide) ?_
            exact ih2 (p + 1) (by omega) (by first | omega | grind) (by first | omega | grind) _ _ hP ls (lv_sub hl [1, 2, 3, 0] rfl)
          · refine lv_iload_n hx hb dX2_find_28 rfl (lv_at hl 3 rfl) ?_
            exact kl_iret hx hb hr hlocks hP ⟨rfl, Or.inr ⟨p, by omega, rfl, c15, c25⟩⟩ dX2_find_29
  exact lp2 (24 + 1) 0 (Nat.lt_succ_of_le (by omega)) (by first | omega | grind) (by first | omega | grind) _ _ hP ls (lv_sub hl [1, 2, 3, 0] rfl)

abbrev rm_X2_lesserKeys : Room := { frames := 1, cells := 0, slots := 0, locals := 22 }
set_option maxHeartbeats 4000000 in
set_option maxRecDepth 100000 in
theorem c_X2_lesserKeys (l : Launch) (G : kl_G) (B : Nat) (w : kl_M) (i a b : Nat) {T C : Nat → Int32} (t k : Int32) (h0 : w i = some (.inr (2, [.ref (B + a), .ref (B + b)]))) (h1 : w a = some (kl_aI G 24 T)) (h2 : w b = some (kl_aI G 96 C))  : Met l yX2_lesserKeys wsX2_lesserKeys rm_X2_lesserKeys (kl_Pc G B w [.ref (B + i), .int t, .int k]) (kl_Qi G B (fun r w1 => w = w1 ∧ r = nI (mt_less T C t k))) 0 0 (kl_fr B) := by
  refine Met.ofW (cc := cX2_lesserKeys) (maxL := 5) (ret := (some .int)) (by decide) rfl ?_
  intro pg e s m args below meth cd s₁ Bd hml hv
  obtain ⟨rfl, hP0, hK⟩ := hv
  have hx := Bd.exec
  have hb := Bd.bytes
  have hr := Bd.returns
  have hts := atoms_spec (ws := wsX2_lesserKeys) Bd.pre
  have hown : s.vm.findClass RX2 = some m.cls := findClass_of_methodNamed Bd.named
  have hlocks := Bd.notSynchronized
  have hinX2 : ∀ w ∈ u_ws RX2 TX2 2, w ∈ wsX2_lesserKeys := by decide +kernel
  have hP := kl_S.rf hP0
  have hl := lv_entry ([.ref (B + i), .int t, .int k]) (n := 5) (Nat.le_of_ble_eq_true rfl)
  rw [lg_entry_eq]
  generalize (lg_sl ([.ref (B + i), .int t, .int k]) ++ List.replicate (5 - (lg_sl ([.ref (B + i), .int t, .int k])).length) Slot.unset).toArray = ls at hl ⊢
  have hl : lv_has ls 5 [(0, .ref (B + i)), (1, .int t), (2, .int k)] := hl
  refine lv_iconst (v := nI 0) hx hb dX2_lesserKeys_0 (by decide) ?_
  refine lv_istore_n (lv' := [(3, .int (nI 0)), (0, .ref (B + i)), (1, .int t), (2, .int k)]) hx hb dX2_lesserKeys_1 rfl hl (by decide) rfl (fun ls hl => ?_)
  refine lv_iconst (v := nI 0) hx hb dX2_lesserKeys_2 (by decide) ?_
  refine lv_istore (lv' := [(4, .int (nI 0)), (3, .int (nI 0)), (0, .ref (B + i)), (1, .int t), (2, .int k)]) hx hb dX2_lesserKeys_3 hl (by decide) rfl (fun ls hl => ?_)
  have lp5 : ∀ (n5 : Nat) (p : Nat) (n : Nat), 24 - p < n5 → (p ≤ 24) → (n = mt_ct (fun q => T q = t ∧ C (4 * q) < k) p) → ∀ (H : Heap) (locs : List Loc), kl_S G B w s.heap H locs → ∀ ls : Array Slot, lv_has ls 5 [(0, .ref (B + i)), (1, .int t), (2, .int k), (3, .int (nI n)), (4, .int (nI p))] → W pg l e rm_X2_lesserKeys s m ([.ref (B + i), .int t, .int k] : List Value).toArray below meth cd H locs (0) (0) (MQ below (kl_Qi G B (fun r w1 => w = w1 ∧ r = nI (mt_less T C t k))) ([.ref (B + i), .int t, .int k] : List Value).toArray s 0 0 (kl_fr B)) (F0 m 5 ls []) := by
    intro n5
    induction n5 with
    | zero => intro p n hm; exact absurd hm (Nat.not_lt_zero _)
    | succ n5 ih5 =>
      intro p n hm hp hk H locs  hP ls hl
      refine lv_iload hx hb dX2_lesserKeys_5 (lv_at hl 4 rfl) ?_
      refine lv_bipush (v := nI 24) hx hb dX2_lesserKeys_7 (by decide) ?_
      refine kl_ge (tgt := 43) hx hb (by omega) (by omega) dX2_lesserKeys_9 (by decide) (fun c9 => ?_) (fun c9 => ?_)
      · refine lv_iload_n hx hb dX2_lesserKeys_43 rfl (lv_at hl 3 rfl) ?_
        exact kl_iret hx hb hr hlocks hP ⟨rfl, by rw [hk, show p = 24 by omega]; rfl⟩ dX2_lesserKeys_44
      · refine lv_aload_n hx hb dX2_lesserKeys_12 rfl (lv_at hl 0 rfl) ?_
        refine kl_get (C := RX2) (T := TX2) (N := 2) (ci := 2) hx hb hts hinX2 hown hK hP h0 rfl 0 (by decide) (hts (.fieldLink RX2 9 "KinLedger$Rows" "tables" "[I") (by decide +kernel)) (fun _ h9 => h9) rfl dX2_lesserKeys_13 ?_
        refine lv_iload hx hb dX2_lesserKeys_16 (lv_at hl 4 rfl) ?_
        refine kl_iald hx hb hK hP h1 (by omega) (by omega) dX2_lesserKeys_18 ?_
        refine lv_iload_n hx hb dX2_lesserKeys_19 rfl (lv_at hl 1 rfl) ?_
        refine lv_icmp_ne (tgt := 37) hx hb dX2_lesserKeys_20 (by decide) (fun c20 => ?_) (fun c20 => ?_)
        · refine lv_iinc (v := nI (p + 1)) (lv' := [(4, .int (nI (p + 1))), (0, .ref (B + i)), (1, .int t), (2, .int k), (3, .int (nI n))]) hx hb dX2_lesserKeys_37 hl (k := 4) rfl (nI_1 _) (by decide) rfl (fun ls hl => ?_)
          refine lv_goto (tgt := 5) hx hb dX2_lesserKeys_40 (by decide) ?_
          exact ih5 (p + 1) n (by omega) (by first | omega | grind) (by rw [mt_ct_n (fun z => c20 z.1), ← hk]) _ _ hP ls (lv_sub hl [1, 2, 3, 4, 0] rfl)
        · refine lv_aload_n hx hb dX2_lesserKeys_23 rfl (lv_at hl 0 rfl) ?_
          refine lv_iload hx hb dX2_lesserKeys_24 (lv_at hl 4 rfl) ?_
          refine lv_iconst (v := nI 0) hx hb dX2_lesserKeys_26 (by decide) ?_
          refine kl_cVi (C := RX2) (i := i) (As := [.int (nI p), .int (nI 0)]) (rest := []) ⟨hx, hb, hml, hown, hts⟩ (c_X2_at l G B _ i a b p 0 h0 h1 h2 (by omega) (by omega)) (cwV 2 hts gX2_lesserKeys_X2_at rfl rfl rfl (by decide +kernel) ⟨Nat.le_of_ble_eq_true rfl, Nat.le_of_ble_eq_true rfl⟩) hK hP h0 rfl rfl hl.1 rfl (Nat.le_of_ble_eq_true rfl) dX2_lesserKeys_27 ⟨Nat.le_of_ble_eq_true rfl, Nat.le_of_ble_eq_true rfl⟩ (fun r3 w1 H locs q2 hP => ?_)
          obtain ⟨rfl, rfl⟩ := q2
          refine kl_top (z := C (4 * p)) rfl ?_
          refine lv_iload_n hx hb dX2_lesserKeys_30 rfl (lv_at hl 2 rfl) ?_
          refine lv_icmp_ge (tgt := 37) hx hb dX2_lesserKeys_31 (by decide) (fun c31 => ?_) (fun c31 => ?_)
          · refine lv_iinc (v := nI (p + 1)) (lv' := [(4, .int (nI (p + 1))), (0, .ref (B + i)), (1, .int t), (2, .int k), (3, .int (nI n))]) hx hb dX2_lesserKeys_37 hl (k := 4) rfl (nI_1 _) (by decide) rfl (fun ls hl => ?_)
            refine lv_goto (tgt := 5) hx hb dX2_lesserKeys_40 (by decide) ?_
            exact ih5 (p + 1) n (by omega) (by first | omega | grind) (by rw [mt_ct_n (fun z => absurd z.2 (Int32.not_lt.mpr c31)), ← hk]) _ _ hP ls (lv_sub hl [1, 2, 3, 4, 0] rfl)
          · refine lv_iinc (v := nI (n + 1)) (lv' := [(3, .int (nI (n + 1))), (0, .ref (B + i)), (1, .int t), (2, .int k), (4, .int (nI p))]) hx hb dX2_lesserKeys_34 hl (k := 3) rfl (nI_1 _) (by decide) rfl (fun ls hl => ?_)
            refine lv_iinc (v := nI (p + 1)) (lv' := [(4, .int (nI (p + 1))), (3, .int (nI (n + 1))), (0, .ref (B + i)), (1, .int t), (2, .int k)]) hx hb dX2_lesserKeys_37 hl (k := 4) rfl (nI_1 _) (by decide) rfl (fun ls hl => ?_)
            refine lv_goto (tgt := 5) hx hb dX2_lesserKeys_40 (by decide) ?_
            exact ih5 (p + 1) (n + 1) (by omega) (by first | omega | grind) (by rw [mt_ct_y ⟨c20, Int32.not_le.mp c31⟩, ← hk]) _ _ hP ls (lv_sub hl [2, 3, 4, 1, 0] rfl)
  exact lp5 (24 + 1) 0 0 (Nat.lt_succ_of_le (by omega)) (by first | omega | grind) rfl _ _ hP ls (lv_sub hl [2, 3, 4, 1, 0] rfl)

abbrev rm_X2_placeOfRank : Room := { frames := 2, cells := 0, slots := 0, locals := 46 }
set_option maxHeartbeats 4000000 in
set_option maxRecDepth 100000 in
theorem c_X2_placeOfRank (l : Launch) (G : kl_G) (B : Nat) (w : kl_M) (i a b : Nat) {T C : Nat → Int32} (t k : Int32) (h0 : w i = some (.inr (2, [.ref (B + a), .ref (B + b)]))) (h1 : w a = some (kl_aI G 24 T)) (h2 : w b = some (kl_aI G 96 C))  : Met l yX2_placeOfRank wsX2_placeOfRank rm_X2_placeOfRank (kl_Pc G B w [.ref (B + i), .int t, .int k]) (kl_Qi G B (fun r w1 => w = w1 ∧ mt_rank T C t k r)) 0 0 (kl_fr B) := by
  refine Met.ofW (cc := cX2_placeOfRank) (maxL := 4) (ret := (some .int)) (by decide) rfl ?_
  intro pg e s m args below meth cd s₁ Bd hml hv
  obtain ⟨rfl, hP0, hK⟩ := hv
  have hx := Bd.exec
  have hb := Bd.bytes
  have hr := Bd.returns
  have hts := atoms_spec (ws := wsX2_placeOfRank) Bd.pre
  have hown : s.vm.findClass RX2 = some m.cls := findClass_of_methodNamed Bd.named
  have hlocks := Bd.notSynchronized
  have hinX2 : ∀ w ∈ u_ws RX2 TX2 2, w ∈ wsX2_placeOfRank := by decide +kernel
  have hP := kl_S.rf hP0
  have hl := lv_entry ([.ref (B + i), .int t, .int k]) (n := 4) (Nat.le_of_ble_eq_true rfl)
  rw [lg_entry_eq]
  generalize (lg_sl ([.ref (B + i), .int t, .int k]) ++ List.replicate (4 - (lg_sl ([.ref (B + i), .int t, .int k])).length) Slot.unset).toArray = ls at hl ⊢
  have hl : lv_has ls 4 [(0, .ref (B + i)), (1, .int t), (2, .int k)] := hl
  refine lv_iconst (v := nI 0) hx hb dX2_placeOfRank_0 (by decide) ?_
  refine lv_istore_n (lv' := [(3, .int (nI 0)), (0, .ref (B + i)), (1, .int t), (2, .int k)]) hx hb dX2_placeOfRank_1 rfl hl (by decide) rfl (fun ls hl => ?_)
  have lp2 : ∀ (n2 : Nat) (p : Nat), 24 - p < n2 → (p ≤ 24) → (∀ q, q < p → ¬ (T q = t ∧ nI (mt_less T C t (C (4 * q))) = k)) → ∀ (H : Heap) (locs : List Loc), kl_S G B w s.heap H locs → ∀ ls : Array Slot, lv_has ls 4 [(0, .ref (B + i)), (1, .int t), (2, .int k), (3, .int (nI p))] → W pg l e rm_X2_placeOfRank s m ([.ref (B + i), .int t, .int k] : List Value).toArray below meth cd H locs (0) (0) (MQ below (kl_Qi G B (fun r w1 => w = w1 ∧ mt_rank T C t k r)) ([.ref (B + i), .int t, .int k] : List Value).toArray s 0 0 (kl_fr B)) (F0 m 2 ls []) := by
    intro n2
    induction n2 with
    | zero => intro p hm; exact absurd hm (Nat.not_lt_zero _)
    | succ n2 ih2 =>
      intro p hm hp hno H locs  hP ls hl
      refine lv_iload_n hx hb dX2_placeOfRank_2 rfl (lv_at hl 3 rfl) ?_
      refine lv_bipush (v := nI 24) hx hb dX2_placeOfRank_3 (by decide) ?_
      refine kl_ge (tgt := 41) hx hb (by omega) (by omega) dX2_placeOfRank_5 (by decide) (fun c5 => ?_) (fun c5 => ?_)
      · refine lv_iconst (v := (-1)) hx hb dX2_placeOfRank_41 (by decide) ?_
        exact kl_iret hx hb hr hlocks hP ⟨rfl, Or.inl ⟨rfl, fun q hq => hno q (by omega)⟩⟩ dX2_placeOfRank_42
      · refine lv_aload_n hx hb dX2_placeOfRank_8 rfl (lv_at hl 0 rfl) ?_
        refine kl_get (C := RX2) (T := TX2) (N := 2) (ci := 2) hx hb hts hinX2 hown hK hP h0 rfl 0 (by decide) (hts (.fieldLink RX2 9 "KinLedger$Rows" "tables" "[I") (by decide +kernel)) (fun _ h9 => h9) rfl dX2_placeOfRank_9 ?_
        refine lv_iload_n hx hb dX2_placeOfRank_12 rfl (lv_at hl 3 rfl) ?_
        refine kl_iald hx hb hK hP h1 (by omega) (by omega) dX2_placeOfRank_13 ?_
        refine lv_iload_n hx hb dX2_placeOfRank_14 rfl (lv_at hl 1 rfl) ?_
        refine lv_icmp_ne (tgt := 35) hx hb dX2_placeOfRank_15 (by decide) (fun c15 => ?_) (fun c15 => ?_)
        · refine lv_iinc (v := nI (p + 1)) (lv' := [(3, .int (nI (p + 1))), (0, .ref (B + i)), (1, .int t), (2, .int k)]) hx hb dX2_placeOfRank_35 hl (k := 3) rfl (nI_1 _) (by decide) rfl (fun ls hl => ?_)
          refine lv_goto (tgt := 2) hx hb dX2_placeOfRank_38 (by decide) ?_
          exact ih2 (p + 1) (by omega) (by first | omega | grind) (by first | omega | grind) _ _ hP ls (lv_sub hl [1, 2, 3, 0] rfl)
        · refine lv_aload_n hx hb dX2_placeOfRank_18 rfl (lv_at hl 0 rfl) ?_
          refine lv_iload_n hx hb dX2_placeOfRank_19 rfl (lv_at hl 1 rfl) ?_
          refine lv_aload_n hx hb dX2_placeOfRank_20 rfl (lv_at hl 0 rfl) ?_
          refine lv_iload_n hx hb dX2_placeOfRank_21 rfl (lv_at hl 3 rfl) ?_
          refine lv_iconst (v := nI 0) hx hb dX2_placeOfRank_22 (by decide) ?_
          refine kl_cVi (C := RX2) (i := i) (As := [.int (nI p), .int (nI 0)]) (rest := [.int t, .ref (B + i)]) ⟨hx, hb, hml, hown, hts⟩ (c_X2_at l G B _ i a b p 0 h0 h1 h2 (by omega) (by omega)) (cwV 2 hts gX2_placeOfRank_X2_at rfl rfl rfl (by decide +kernel) ⟨Nat.le_of_ble_eq_true rfl, Nat.le_of_ble_eq_true rfl⟩) hK hP h0 rfl rfl hl.1 rfl (Nat.le_of_ble_eq_true rfl) dX2_placeOfRank_23 ⟨Nat.le_of_ble_eq_true rfl, Nat.le_of_ble_eq_true rfl⟩ (fun r3 w1 H locs q2 hP => ?_)
          obtain ⟨rfl, rfl⟩ := q2
          refine kl_top (z := C (4 * p)) rfl ?_
          refine kl_cVi (C := RX2) (i := i) (As := [.int t, .int (C (4 * p))]) (rest := []) ⟨hx, hb, hml, hown, hts⟩ (c_X2_lesserKeys l G B _ i a b t (C (4 * p)) h0 h1 h2 ) (cwV 2 hts gX2_placeOfRank_X2_lesserKeys rfl rfl rfl (by decide +kernel) ⟨Nat.le_of_ble_eq_true rfl, Nat.le_of_ble_eq_true rfl⟩) hK hP h0 rfl rfl hl.1 rfl (Nat.le_of_ble_eq_true rfl) dX2_placeOfRank_26 ⟨Nat.le_of_ble_eq_true rfl, Nat.le_of_ble_eq_true rfl⟩ (fun r6 w4 H locs q5 hP => ?_)
          obtain ⟨rfl, rfl⟩ := q5
          refine lv_iload_n hx hb dX2_placeOfRank_29 rfl (lv_at hl 2 rfl) ?_
          refine lv_icmp_ne (tgt := 35) hx hb dX2_placeOfRank_30 (by decide) (fun c30 => ?_) (fun c30 => ?_)
          · refine lv_iinc (v := nI (p + 1)) (lv' := [(3, .int (nI (p + 1))), (0, .ref (B + i)), (1, .int t), (2, .int k)]) hx hb dX2_placeOfRank_35 hl (k := 3) rfl (nI_1 _) (by decide) rfl (fun ls hl => ?_)
            refine lv_goto (tgt := 2) hx hb dX2_placeOfRank_38 (by decide) ?_
            exact ih2 (p + 1) (by omega) (by first | omega | grind) (by first | omega | grind) _ _ hP ls (lv_sub hl [1, 2, 3, 0] rfl)
          · refine lv_iload_n hx hb dX2_placeOfRank_33 rfl (lv_at hl 3 rfl) ?_
            exact kl_iret hx hb hr hlocks hP ⟨rfl, Or.inr ⟨p, by omega, rfl, c15, c30⟩⟩ dX2_placeOfRank_34
  exact lp2 (24 + 1) 0 (Nat.lt_succ_of_le (by omega)) (by first | omega | grind) (by first | omega | grind) _ _ hP ls (lv_sub hl [1, 2, 3, 0] rfl)

abbrev rm_X2_hasTwinBefore : Room := { frames := 1, cells := 0, slots := 0, locals := 22 }
set_option maxHeartbeats 4000000 in
set_option maxRecDepth 100000 in
theorem c_X2_hasTwinBefore (l : Launch) (G : kl_G) (B : Nat) (w : kl_M) (i a b : Nat) {T C : Nat → Int32} (p c : Nat) (h0 : w i = some (.inr (2, [.ref (B + a), .ref (B + b)]))) (h1 : w a = some (kl_aI G 24 T)) (h2 : w b = some (kl_aI G 96 C)) (hp : p < 24) (hc : c < 4) : Met l yX2_hasTwinBefore wsX2_hasTwinBefore rm_X2_hasTwinBefore (kl_Pc G B w [.ref (B + i), .int (nI p), .int (nI c)]) (kl_Qi G B (fun r w1 => w = w1 ∧ kl_b r (mt_twinb T C p c))) 0 0 (kl_fr B) := by
  refine Met.ofW (cc := cX2_hasTwinBefore) (maxL := 4) (ret := (some .boolean)) (by decide) rfl ?_
  intro pg e s m args below meth cd s₁ Bd hml hv
  obtain ⟨rfl, hP0, hK⟩ := hv
  have hx := Bd.exec
  have hb := Bd.bytes
  have hr := Bd.returns
  have hts := atoms_spec (ws := wsX2_hasTwinBefore) Bd.pre
  have hown : s.vm.findClass RX2 = some m.cls := findClass_of_methodNamed Bd.named
  have hlocks := Bd.notSynchronized
  have hinX2 : ∀ w ∈ u_ws RX2 TX2 2, w ∈ wsX2_hasTwinBefore := by decide +kernel
  have hP := kl_S.rf hP0
  have hl := lv_entry ([.ref (B + i), .int (nI p), .int (nI c)]) (n := 4) (Nat.le_of_ble_eq_true rfl)
  rw [lg_entry_eq]
  generalize (lg_sl ([.ref (B + i), .int (nI p), .int (nI c)]) ++ List.replicate (4 - (lg_sl ([.ref (B + i), .int (nI p), .int (nI c)])).length) Slot.unset).toArray = ls at hl ⊢
  have hl : lv_has ls 4 [(0, .ref (B + i)), (1, .int (nI p)), (2, .int (nI c))] := hl
  refine lv_iconst (v := nI 0) hx hb dX2_hasTwinBefore_0 (by decide) ?_
  refine lv_istore_n (lv' := [(3, .int (nI 0)), (0, .ref (B + i)), (1, .int (nI p)), (2, .int (nI c))]) hx hb dX2_hasTwinBefore_1 rfl hl (by decide) rfl (fun ls hl => ?_)
  have lp2 : ∀ (n2 : Nat) (q : Nat), 24 - q < n2 → (q ≤ p) → (∀ j, j < q → ¬ (T j = T p ∧ C (4 * j + c) = C (4 * p + c))) → ∀ (H : Heap) (locs : List Loc), kl_S G B w s.heap H locs → ∀ ls : Array Slot, lv_has ls 4 [(0, .ref (B + i)), (1, .int (nI p)), (2, .int (nI c)), (3, .int (nI q))] → W pg l e rm_X2_hasTwinBefore s m ([.ref (B + i), .int (nI p), .int (nI c)] : List Value).toArray below meth cd H locs (0) (0) (MQ below (kl_Qi G B (fun r w1 => w = w1 ∧ kl_b r (mt_twinb T C p c))) ([.ref (B + i), .int (nI p), .int (nI c)] : List Value).toArray s 0 0 (kl_fr B)) (F0 m 2 ls []) := by
    intro n2
    induction n2 with
    | zero => intro q hm; exact absurd hm (Nat.not_lt_zero _)
    | succ n2 ih2 =>
      intro q hm hq hno H locs  hP ls hl
      refine lv_iload_n hx hb dX2_hasTwinBefore_2 rfl (lv_at hl 3 rfl) ?_
      refine lv_iload_n hx hb dX2_hasTwinBefore_3 rfl (lv_at hl 1 rfl) ?_
      refine kl_ge (tgt := 45) hx hb (by omega) (by omega) dX2_hasTwinBefore_4 (by decide) (fun c4 => ?_) (fun c4 => ?_)
      · refine lv_iconst (v := nI 0) hx hb dX2_hasTwinBefore_45 (by decide) ?_
        exact kl_zret hx hb hr hlocks (by decide) hP ⟨rfl, kl_b.f (fun ⟨j, hj, z⟩ => hno j (by omega) z)⟩ dX2_hasTwinBefore_46
      · refine lv_aload_n hx hb dX2_hasTwinBefore_7 rfl (lv_at hl 0 rfl) ?_
        refine kl_get (C := RX2) (T := TX2) (N := 2) (ci := 2) hx hb hts hinX2 hown hK hP h0 rfl 0 (by decide) (hts (.fieldLink RX2 9 "KinLedger$Rows" "tables" "[I") (by decide +kernel)) (fun _ h9 => h9) rfl dX2_hasTwinBefore_8 ?_
        refine lv_iload_n hx hb dX2_hasTwinBefore_11 rfl (lv_at hl 3 rfl) ?_
        refine kl_iald hx hb hK hP h1 (by omega) (by omega) dX2_hasTwinBefore_12 ?_
        refine lv_aload_n hx hb dX2_hasTwinBefore_13 rfl (lv_at hl 0 rfl) ?_
        refine kl_get (C := RX2) (T := TX2) (N := 2) (ci := 2) hx hb hts hinX2 hown hK hP h0 rfl 0 (by decide) (hts (.fieldLink RX2 9 "KinLedger$Rows" "tables" "[I") (by decide +kernel)) (fun _ h9 => h9) rfl dX2_hasTwinBefore_14 ?_
        refine lv_iload_n hx hb dX2_hasTwinBefore_17 rfl (lv_at hl 1 rfl) ?_
        refine kl_iald hx hb hK hP h1 (by omega) (by omega) dX2_hasTwinBefore_18 ?_
        refine lv_icmp_ne (tgt := 39) hx hb dX2_hasTwinBefore_19 (by decide) (fun c19 => ?_) (fun c19 => ?_)
        · refine lv_iinc (v := nI (q + 1)) (lv' := [(3, .int (nI (q + 1))), (0, .ref (B + i)), (1, .int (nI p)), (2, .int (nI c))]) hx hb dX2_hasTwinBefore_39 hl (k := 3) rfl (nI_1 _) (by decide) rfl (fun ls hl => ?_)
          refine lv_goto (tgt := 2) hx hb dX2_hasTwinBefore_42 (by decide) ?_
          exact ih2 (q + 1) (by omega) (by first | omega | grind) (by first | omega | grind) _ _ hP ls (lv_sub hl [1, 2, 3, 0] rfl)
        · refine lv_aload_n hx hb dX2_hasTwinBefore_22 rfl (lv_at hl 0 rfl) ?_
          refine lv_iload_n hx hb dX2_hasTwinBefore_23 rfl (lv_at hl 3 rfl) ?_
          refine lv_iload_n hx hb dX2_hasTwinBefore_24 rfl (lv_at hl 2 rfl) ?_
          refine kl_cVi (C := RX2) (i := i) (As := [.int (nI q), .int (nI c)]) (rest := []) ⟨hx, hb, hml, hown, hts⟩ (c_X2_at l G B _ i a b q c h0 h1 h2 (by omega) (by omega)) (cwV 2 hts gX2_hasTwinBefore_X2_at rfl rfl rfl (by decide +kernel) ⟨Nat.le_of_ble_eq_true rfl, Nat.le_of_ble_eq_true rfl⟩) hK hP h0 rfl rfl hl.1 rfl (Nat.le_of_ble_eq_true rfl) dX2_hasTwinBefore_25 ⟨Nat.le_of_ble_eq_true rfl, Nat.le_of_ble_eq_true rfl⟩ (fun r3 w1 H locs q2 hP => ?_)
          obtain ⟨rfl, rfl⟩ := q2
          refine kl_top (z := C (4 * q + c)) rfl ?_
          refine lv_aload_n hx hb dX2_hasTwinBefore_28 rfl (lv_at hl 0 rfl) ?_
          refine lv_iload_n hx hb dX2_hasTwinBefore_29 rfl (lv_at hl 1 rfl) ?_
          refine lv_iload_n hx hb dX2_hasTwinBefore_30 rfl (lv_at hl 2 rfl) ?_
          refine kl_cVi (C := RX2) (i := i) (As := [.int (nI p), .int (nI c)]) (rest := [.int (C (4 * q + c))]) ⟨hx, hb, hml, hown, hts⟩ (c_X2_at l G B _ i a b p c h0 h1 h2 (by omega) (by omega)) (cwV 2 hts gX2_hasTwinBefore_X2_at rfl rfl rfl (by decide +kernel) ⟨Nat.le_of_ble_eq_true rfl, Nat.le_of_ble_eq_true rfl⟩) hK hP h0 rfl rfl hl.1 rfl (Nat.le_of_ble_eq_true rfl) dX2_hasTwinBefore_31 ⟨Nat.le_of_ble_eq_true rfl, Nat.le_of_ble_eq_true rfl⟩ (fun r6 w4 H locs q5 hP => ?_)
          obtain ⟨rfl, rfl⟩ := q5
          refine kl_top (z := C (4 * p + c)) rfl ?_
          refine lv_icmp_ne (tgt := 39) hx hb dX2_hasTwinBefore_34 (by decide) (fun c34 => ?_) (fun c34 => ?_)
          · refine lv_iinc (v := nI (q + 1)) (lv' := [(3, .int (nI (q + 1))), (0, .ref (B + i)), (1, .int (nI p)), (2, .int (nI c))]) hx hb dX2_hasTwinBefore_39 hl (k := 3) rfl (nI_1 _) (by decide) rfl (fun ls hl => ?_)
            refine lv_goto (tgt := 2) hx hb dX2_hasTwinBefore_42 (by decide) ?_
            exact ih2 (q + 1) (by omega) (by first | omega | grind) (by first | omega | grind) _ _ hP ls (lv_sub hl [1, 2, 3, 0] rfl)
          · refine lv_iconst (v := nI 1) hx hb dX2_hasTwinBefore_37 (by decide) ?_
            exact kl_zret hx hb hr hlocks (by decide) hP ⟨rfl, kl_b.t ⟨q, by omega, c19, c34⟩⟩ dX2_hasTwinBefore_38
  exact lp2 (24 + 1) 0 (Nat.lt_succ_of_le (by omega)) (by first | omega | grind) (by first | omega | grind) _ _ hP ls (lv_sub hl [1, 2, 3, 0] rfl)

abbrev rm_X2_hasTwins : Room := { frames := 2, cells := 0, slots := 0, locals := 45 }
set_option maxHeartbeats 4000000 in
set_option maxRecDepth 100000 in
theorem c_X2_hasTwins (l : Launch) (G : kl_G) (B : Nat) (w : kl_M) (i a b : Nat) {T C : Nat → Int32} (t : Int32) (c : Nat) (h0 : w i = some (.inr (2, [.ref (B + a), .ref (B + b)]))) (h1 : w a = some (kl_aI G 24 T)) (h2 : w b = some (kl_aI G 96 C)) (hc : c < 4) : Met l yX2_hasTwins wsX2_hasTwins rm_X2_hasTwins (kl_Pc G B w [.ref (B + i), .int t, .int (nI c)]) (kl_Qi G B (fun r w1 => w = w1 ∧ kl_b r (mt_twin T C t c))) 0 0 (kl_fr B) := by
  refine Met.ofW (cc := cX2_hasTwins) (maxL := 4) (ret := (some .boolean)) (by decide) rfl ?_
  intro pg e s m args below meth cd s₁ Bd hml hv
  obtain ⟨rfl, hP0, hK⟩ := hv
  have hx := Bd.exec
  have hb := Bd.bytes
  have hr := Bd.returns
  have hts := atoms_spec (ws := wsX2_hasTwins) Bd.pre
  have hown : s.vm.findClass RX2 = some m.cls := findClass_of_methodNamed Bd.named
  have hlocks := Bd.notSynchronized
  have hinX2 : ∀ w ∈ u_ws RX2 TX2 2, w ∈ wsX2_hasTwins := by decide +kernel
  have hP := kl_S.rf hP0
  have hl := lv_entry ([.ref (B + i), .int t, .int (nI c)]) (n := 4) (Nat.le_of_ble_eq_true rfl)
  rw [lg_entry_eq]
  generalize (lg_sl ([.ref (B + i), .int t, .int (nI c)]) ++ List.replicate (4 - (lg_sl ([.ref (B + i), .int t, .int (nI c)])).length) Slot.unset).toArray = ls at hl ⊢
  have hl : lv_has ls 4 [(0, .ref (B + i)), (1, .int t), (2, .int (nI c))] := hl
  refine lv_iconst (v := nI 1) hx hb dX2_hasTwins_0 (by decide) ?_
  refine lv_istore_n (lv' := [(3, .int (nI 1)), (0, .ref (B + i)), (1, .int t), (2, .int (nI c))]) hx hb dX2_hasTwins_1 rfl hl (by decide) rfl (fun ls hl => ?_)
  have lp2 : ∀ (n2 : Nat) (p : Nat), 24 - p < n2 → (p ≤ 24) → (∀ q, q < p → ¬ (T q = t ∧ C (4 * q + c) ≠ 0 ∧ mt_twinb T C q c)) → ∀ (H : Heap) (locs : List Loc), kl_S G B w s.heap H locs → ∀ ls : Array Slot, lv_has ls 4 [(0, .ref (B + i)), (1, .int t), (2, .int (nI c)), (3, .int (nI p))] → W pg l e rm_X2_hasTwins s m ([.ref (B + i), .int t, .int (nI c)] : List Value).toArray below meth cd H locs (0) (0) (MQ below (kl_Qi G B (fun r w1 => w = w1 ∧ kl_b r (mt_twin T C t c))) ([.ref (B + i), .int t, .int (nI c)] : List Value).toArray s 0 0 (kl_fr B)) (F0 m 2 ls []) := by
    intro n2
    induction n2 with
    | zero => intro p hm; exact absurd hm (Nat.not_lt_zero _)
    | succ n2 ih2 =>
      intro p hm hp hno H locs  hP ls hl
      refine lv_iload_n hx hb dX2_hasTwins_2 rfl (lv_at hl 3 rfl) ?_
      refine lv_bipush (v := nI 24) hx hb dX2_hasTwins_3 (by decide) ?_
      refine kl_ge (tgt := 44) hx hb (by omega) (by omega) dX2_hasTwins_5 (by decide) (fun c5 => ?_) (fun c5 => ?_)
      · refine lv_iconst (v := nI 0) hx hb dX2_hasTwins_44 (by decide) ?_
        exact kl_zret hx hb hr hlocks (by decide) hP ⟨rfl, kl_b.f (fun ⟨q, hq, z⟩ => hno q (by omega) z)⟩ dX2_hasTwins_45
      · refine lv_aload_n hx hb dX2_hasTwins_8 rfl (lv_at hl 0 rfl) ?_
        refine kl_get (C := RX2) (T := TX2) (N := 2) (ci := 2) hx hb hts hinX2 hown hK hP h0 rfl 0 (by decide) (hts (.fieldLink RX2 9 "KinLedger$Rows" "tables" "[I") (by decide +kernel)) (fun _ h9 => h9) rfl dX2_hasTwins_9 ?_
        refine lv_iload_n hx hb dX2_hasTwins_12 rfl (lv_at hl 3 rfl) ?_
        refine kl_iald hx hb hK hP h1 (by omega) (by omega) dX2_hasTwins_13 ?_
        refine lv_iload_n hx hb dX2_hasTwins_14 rfl (lv_at hl 1 rfl) ?_
        refine lv_icmp_ne (tgt := 38) hx hb dX2_hasTwins_15 (by decide) (fun c15 => ?_) (fun c15 => ?_)
        · refine lv_iinc (v := nI (p + 1)) (lv' := [(3, .int (nI (p + 1))), (0, .ref (B + i)), (1, .int t), (2, .int (nI c))]) hx hb dX2_hasTwins_38 hl (k := 3) rfl (nI_1 _) (by decide) rfl (fun ls hl => ?_)
          refine lv_goto (tgt := 2) hx hb dX2_hasTwins_41 (by decide) ?_
          exact ih2 (p + 1) (by omega) (by first | omega | grind) (by first | omega | grind) _ _ hP ls (lv_sub hl [1, 2, 3, 0] rfl)
        · refine lv_aload_n hx hb dX2_hasTwins_18 rfl (lv_at hl 0 rfl) ?_
          refine lv_iload_n hx hb dX2_hasTwins_19 rfl (lv_at hl 3 rfl) ?_
          refine lv_iload_n hx hb dX2_hasTwins_20 rfl (lv_at hl 2 rfl) ?_
          refine kl_cVi (C := RX2) (i := i) (As := [.int (nI p), .int (nI c)]) (rest := []) ⟨hx, hb, hml, hown, hts⟩ (c_X2_at l G B _ i a b p c h0 h1 h2 (by omega) (by omega)) (cwV 2 hts gX2_hasTwins_X2_at rfl rfl rfl (by decide +kernel) ⟨Nat.le_of_ble_eq_true rfl, Nat.le_of_ble_eq_true rfl⟩) hK hP h0 rfl rfl hl.1 rfl (Nat.le_of_ble_eq_true rfl) dX2_hasTwins_21 ⟨Nat.le_of_ble_eq_true rfl, Nat.le_of_ble_eq_true rfl⟩ (fun r3 w1 H locs q2 hP => ?_)
          obtain ⟨rfl, rfl⟩ := q2
          refine kl_top (z := C (4 * p + c)) rfl ?_
          refine lv_if_eq (tgt := 38) hx hb dX2_hasTwins_24 (by decide) (fun c24 => ?_) (fun c24 => ?_)
          · refine lv_iinc (v := nI (p + 1)) (lv' := [(3, .int (nI (p + 1))), (0, .ref (B + i)), (1, .int t), (2, .int (nI c))]) hx hb dX2_hasTwins_38 hl (k := 3) rfl (nI_1 _) (by decide) rfl (fun ls hl => ?_)
            refine lv_goto (tgt := 2) hx hb dX2_hasTwins_41 (by decide) ?_
            exact ih2 (p + 1) (by omega) (by first | omega | grind) (by first | omega | grind) _ _ hP ls (lv_sub hl [1, 2, 3, 0] rfl)
          · refine lv_aload_n hx hb dX2_hasTwins_27 rfl (lv_at hl 0 rfl) ?_
            refine lv_iload_n hx hb dX2_hasTwins_28 rfl (lv_at hl 3 rfl) ?_
            refine lv_iload_n hx hb dX2_hasTwins_29 rfl (lv_at hl 2 rfl) ?_
            refine kl_cVi (C := RX2) (i := i) (As := [.int (nI p), .int (nI c)]) (rest := []) ⟨hx, hb, hml, hown, hts⟩ (c_X2_hasTwinBefore l G B _ i a b p c h0 h1 h2 (by omega) (by omega)) (cwV 2 hts gX2_hasTwins_X2_hasTwinBefore rfl rfl rfl (by decide +kernel) ⟨Nat.le_of_ble_eq_true rfl, Nat.le_of_ble_eq_true rfl⟩) hK hP h0 rfl rfl hl.1 rfl (Nat.le_of_ble_eq_true rfl) dX2_hasTwins_30 ⟨Nat.le_of_ble_eq_true rfl, Nat.le_of_ble_eq_true rfl⟩ (fun r6 w4 H locs q5 hP => ?_)
            obtain ⟨rfl, h7⟩ := q5
            refine kl_ifeq (tgt := 38) hx hb h7 dX2_hasTwins_33 (by decide) (fun c33 => ?_) (fun c33 => ?_)
            · refine lv_iinc (v := nI (p + 1)) (lv' := [(3, .int (nI (p + 1))), (0, .ref (B + i)), (1, .int t), (2, .int (nI c))]) hx hb dX2_hasTwins_38 hl (k := 3) rfl (nI_1 _) (by decide) rfl (fun ls hl => ?_)
              refine lv_goto (tgt := 2) hx hb dX2_hasTwins_41 (by decide) ?_
              exact ih2 (p + 1) (by omega) (by first | omega | grind) (by first | omega | grind) _ _ hP ls (lv_sub hl [1, 2, 3, 0] rfl)
            · refine lv_iconst (v := nI 1) hx hb dX2_hasTwins_36 (by decide) ?_
              exact kl_zret hx hb hr hlocks (by decide) hP ⟨rfl, kl_b.t ⟨p, by omega, c15, c24, c33⟩⟩ dX2_hasTwins_37
  exact lp2 (24 + 1) 1 (Nat.lt_succ_of_le (by omega)) (by first | omega | grind) (fun q hq z => by obtain ⟨-, -, j, hj, -⟩ := z; omega) _ _ hP ls (lv_sub hl [1, 2, 3, 0] rfl)

abbrev rm_X2_become : Room := { frames := 1, cells := 0, slots := 0, locals := 40 }
set_option maxHeartbeats 4000000 in
set_option maxRecDepth 100000 in
theorem c_X2_become (l : Launch) (G : kl_G) (B : Nat) (w : kl_M) (i a b i2 a2 b2 : Nat) {T C T2 C2 : Nat → Int32} (h0 : w i = some (.inr (2, [.ref (B + a), .ref (B + b)]))) (h1 : w a = some (kl_aI G 24 T)) (h2 : w b = some (kl_aI G 96 C)) (h3 : w i2 = some (.inr (2, [.ref (B + a2), .ref (B + b2)]))) (h4 : w a2 = some (kl_aI G 24 T2)) (h5 : w b2 = some (kl_aI G 96 C2)) (ni : i ≠ a ∧ i ≠ b ∧ a ≠ b ∧ i2 ≠ a ∧ i2 ≠ b ∧ a2 ≠ a ∧ a2 ≠ b ∧ b2 ≠ a ∧ b2 ≠ b) : Met l yX2_become wsX2_become rm_X2_become (kl_Pc G B w [.ref (B + i), .ref (B + i2)]) (kl_Qv G B (fun w1 => w1 a = some (kl_aI G 24 T2) ∧ w1 b = some (kl_aI G 96 C2) ∧ ∀ j, j ≠ a → j ≠ b → w1 j = w j)) 0 0 (kl_fr B) := by
  refine Met.ofW (cc := cX2_become) (maxL := 2) (ret := none) (by decide) rfl ?_
  intro pg e s m args below meth cd s₁ Bd hml hv
  obtain ⟨rfl, hP0, hK⟩ := hv
  have hx := Bd.exec
  have hb := Bd.bytes
  have hr := Bd.returns
  have hts := atoms_spec (ws := wsX2_become) Bd.pre
  have hown : s.vm.findClass RX2 = some m.cls := findClass_of_methodNamed Bd.named
  have hlocks := Bd.notSynchronized
  have hinX2 : ∀ w ∈ u_ws RX2 TX2 2, w ∈ wsX2_become := by decide +kernel
  have hP := kl_S.rf hP0
  have hl := lv_entry ([.ref (B + i), .ref (B + i2)]) (n := 2) (Nat.le_of_ble_eq_true rfl)
  rw [lg_entry_eq]
  generalize (lg_sl ([.ref (B + i), .ref (B + i2)]) ++ List.replicate (2 - (lg_sl ([.ref (B + i), .ref (B + i2)])).length) Slot.unset).toArray = ls at hl ⊢
  have hl : lv_has ls 2 [(0, .ref (B + i)), (1, .ref (B + i2))] := hl
  obtain ⟨n1, n2, n3, n4, n5, n6, n7, n8, n9⟩ := ni
  refine lv_aload_n hx hb dX2_become_0 rfl (lv_at hl 1 rfl) ?_
  refine kl_get (C := RX2) (T := TX2) (N := 2) (ci := 2) hx hb hts hinX2 hown hK hP h3 rfl 0 (by decide) (hts (.fieldLink RX2 9 "KinLedger$Rows" "tables" "[I") (by decide +kernel)) (fun _ h9 => h9) rfl dX2_become_1 ?_
  refine lv_iconst (v := nI 0) hx hb dX2_become_4 (by decide) ?_
  refine lv_aload_n hx hb dX2_become_5 rfl (lv_at hl 0 rfl) ?_
  refine kl_get (C := RX2) (T := TX2) (N := 2) (ci := 2) hx hb hts hinX2 hown hK hP h0 rfl 0 (by decide) (hts (.fieldLink RX2 9 "KinLedger$Rows" "tables" "[I") (by decide +kernel)) (fun _ h9 => h9) rfl dX2_become_6 ?_
  refine lv_iconst (v := nI 0) hx hb dX2_become_9 (by decide) ?_
  refine lv_bipush (v := nI 24) hx hb dX2_become_10 (by decide) ?_
  refine kl_copyi hx hb (hml.trans hl.1.symm) hown (hts (.methodLink RX2 24 arraycopyName) (by decide +kernel)) (hts (.native arraycopyName) (by decide +kernel)) (hts (.static arraycopyName) (by decide +kernel)) (hts (.initialized "java/lang/System") (by decide +kernel)) hK hP h4 h1 (by omega) (by omega) (by omega) (Nat.le_of_ble_eq_true rfl) (Nat.le_of_ble_eq_true (by decide)) dX2_become_12 (fun w1 H locs f2 fr3 hzw1 hP => ?_)
  have h0 : w1 i = some (.inr (2, [.ref (B + a), .ref (B + b)])) := (fr3 _ (by omega)).trans h0
  have h2 : w1 b = some (kl_aI G 96 C) := (fr3 _ (by omega)).trans h2
  have h3 : w1 i2 = some (.inr (2, [.ref (B + a2), .ref (B + b2)])) := (fr3 _ (by omega)).trans h3
  have h4 : w1 a2 = some (kl_aI G 24 T2) := (fr3 _ (by omega)).trans h4
  have h5 : w1 b2 = some (kl_aI G 96 C2) := (fr3 _ (by omega)).trans h5
  obtain ⟨w4, f5, fr6, hP⟩ := kl_arr (g := T2) hP f2 (fun j hj => pk_cpy_in (Nat.zero_le _) (by omega) |>.trans (by rw [Nat.zero_add, Nat.sub_zero]))
  have h0 : w4 i = some (.inr (2, [.ref (B + a), .ref (B + b)])) := (fr6 _ (by omega)).trans h0
  have h2 : w4 b = some (kl_aI G 96 C) := (fr6 _ (by omega)).trans h2
  have h3 : w4 i2 = some (.inr (2, [.ref (B + a2), .ref (B + b2)])) := (fr6 _ (by omega)).trans h3
  have h4 : w4 a2 = some (kl_aI G 24 T2) := (fr6 _ (by omega)).trans h4
  have h5 : w4 b2 = some (kl_aI G 96 C2) := (fr6 _ (by omega)).trans h5
  refine lv_aload_n hx hb dX2_become_15 rfl (lv_at hl 1 rfl) ?_
  refine kl_get (C := RX2) (T := TX2) (N := 2) (ci := 2) hx hb hts hinX2 hown hK hP h3 rfl 1 (by decide) (hts (.fieldLink RX2 15 "KinLedger$Rows" "cells" "[I") (by decide +kernel)) (fun _ h9 => h9) rfl dX2_become_16 ?_
  refine lv_iconst (v := nI 0) hx hb dX2_become_19 (by decide) ?_
  refine lv_aload_n hx hb dX2_become_20 rfl (lv_at hl 0 rfl) ?_
  refine kl_get (C := RX2) (T := TX2) (N := 2) (ci := 2) hx hb hts hinX2 hown hK hP h0 rfl 1 (by decide) (hts (.fieldLink RX2 15 "KinLedger$Rows" "cells" "[I") (by decide +kernel)) (fun _ h9 => h9) rfl dX2_become_21 ?_
  refine lv_iconst (v := nI 0) hx hb dX2_become_24 (by decide) ?_
  refine lv_bipush (v := nI 96) hx hb dX2_become_25 (by decide) ?_
  refine kl_copyi hx hb (hml.trans hl.1.symm) hown (hts (.methodLink RX2 24 arraycopyName) (by decide +kernel)) (hts (.native arraycopyName) (by decide +kernel)) (hts (.static arraycopyName) (by decide +kernel)) (hts (.initialized "java/lang/System") (by decide +kernel)) hK hP h5 h2 (by omega) (by omega) (by omega) (Nat.le_of_ble_eq_true rfl) (Nat.le_of_ble_eq_true (by decide)) dX2_become_27 (fun w7 H locs f8 fr9 hzw7 hP => ?_)
  have h0 : w7 i = some (.inr (2, [.ref (B + a), .ref (B + b)])) := (fr9 _ (by omega)).trans h0
  have f5 : w7 a = some (kl_aI G 24 T2) := (fr9 _ (by omega)).trans f5
  have h3 : w7 i2 = some (.inr (2, [.ref (B + a2), .ref (B + b2)])) := (fr9 _ (by omega)).trans h3
  have h4 : w7 a2 = some (kl_aI G 24 T2) := (fr9 _ (by omega)).trans h4
  have h5 : w7 b2 = some (kl_aI G 96 C2) := (fr9 _ (by omega)).trans h5
  obtain ⟨w10, f11, fr12, hP⟩ := kl_arr (g := C2) hP f8 (fun j hj => pk_cpy_in (Nat.zero_le _) (by omega) |>.trans (by rw [Nat.zero_add, Nat.sub_zero]))
  have h0 : w10 i = some (.inr (2, [.ref (B + a), .ref (B + b)])) := (fr12 _ (by omega)).trans h0
  have f5 : w10 a = some (kl_aI G 24 T2) := (fr12 _ (by omega)).trans f5
  have h3 : w10 i2 = some (.inr (2, [.ref (B + a2), .ref (B + b2)])) := (fr12 _ (by omega)).trans h3
  have h4 : w10 a2 = some (kl_aI G 24 T2) := (fr12 _ (by omega)).trans h4
  have h5 : w10 b2 = some (kl_aI G 96 C2) := (fr12 _ (by omega)).trans h5
  exact kl_vret hx hb hr hlocks hP ⟨f5, f11, fun j h1 h2 => by grind⟩ dX2_become_30
end
section
abbrev rm_J7_fill_53178 : Room := { frames := 0, cells := 0, slots := 0, locals := 0 }
set_option maxHeartbeats 4000000 in
set_option maxRecDepth 100000 in
theorem c_J7_fill_53178 (l : Launch) (G : kl_G) (B : Nat) (w : kl_M) (i n z : Nat) {f : Nat → Int32} (x : Int32) (h0 : w i = some (kl_aI G n f)) (hn : n < 2 ^ 31) : Met l yJ7_fill_53178 wsJ7_fill_53178 rm_J7_fill_53178 (kl_Pz G B z w [.ref (B + i), .int x]) (kl_Qz G B 0 (fun w1 => w1 i = some (kl_aI G n (fun _ => x)) ∧ ∀ j, j ≠ i → w1 j = w j)) 0 0 (kl_fr B) := by
  refine Met.ofW (cc := cJ7_fill_53178) (maxL := 4) (ret := none) (by decide) rfl ?_
  intro pg e s m args below meth cd s₁ Bd hml hv
  obtain ⟨rfl, hsz, hP0, hK⟩ := hv
  have hx := Bd.exec
  have hb := Bd.bytes
  have hr := Bd.returns
  have hts := atoms_spec (ws := wsJ7_fill_53178) Bd.pre
  have hown : s.vm.findClass RJ7 = some m.cls := findClass_of_methodNamed Bd.named
  have hlocks := Bd.notSynchronized
  have hP := kl_S.rf hP0
  have hl := lv_entry ([.ref (B + i), .int x]) (n := 4) (Nat.le_of_ble_eq_true rfl)
  rw [lg_entry_eq]
  generalize (lg_sl ([.ref (B + i), .int x]) ++ List.replicate (4 - (lg_sl ([.ref (B + i), .int x])).length) Slot.unset).toArray = ls at hl ⊢
  have hl : lv_has ls 4 [(0, .ref (B + i)), (1, .int x)] := hl
  have frm : ∀ j : Nat, j ≠ i → w j = w j := fun j _ => rfl
  have hz0 : s.heap.size = z + 0 := hsz
  refine lv_iconst (v := nI 0) hx hb dJ7_fill_53178_0 (by decide) ?_
  refine lv_istore_n (lv' := [(2, .int (nI 0)), (0, .ref (B + i)), (1, .int x)]) hx hb dJ7_fill_53178_1 rfl hl (by decide) rfl (fun ls hl => ?_)
  refine lv_aload_n hx hb dJ7_fill_53178_2 rfl (lv_at hl 1 rfl) ?_
  refine kl_alen hx hb hK hP 0 (k0 := 0) h0 rfl dJ7_fill_53178_3 ?_
  refine kl_top (z := nI n) rfl ?_
  refine lv_istore_n (lv' := [(3, .int (nI n)), (2, .int (nI 0)), (0, .ref (B + i)), (1, .int x)]) hx hb dJ7_fill_53178_4 rfl hl (by decide) rfl (fun ls hl => ?_)
  have lp5 : ∀ (n5 : Nat) (p : Nat) (g : Nat → Int32), n - p < n5 → (p ≤ n) → (∀ q, q < p → g q = x) → ∀ (w1 : kl_M) (H : Heap) (locs : List Loc), w1 i = some (kl_aI G n g) → (∀ j : Nat, j ≠ i → w1 j = w j) → (H.size = z + 0) → kl_S G B w1 s.heap H locs → ∀ ls : Array Slot, lv_has ls 4 [(0, .ref (B + i)), (1, .int x), (2, .int (nI p)), (3, .int (nI n))] → W pg l e rm_J7_fill_53178 s m ([.ref (B + i), .int x] : List Value).toArray below meth cd H locs (0) (0) (MQ below (kl_Qz G B 0 (fun w1 => w1 i = some (kl_aI G n (fun _ => x)) ∧ ∀ j, j ≠ i → w1 j = w j)) ([.ref (B + i), .int x] : List Value).toArray s 0 0 (kl_fr B)) (F0 m 5 ls []) := by
    intro n5
    induction n5 with
    | zero => intro p g hm; exact absurd hm (Nat.not_lt_zero _)
    | succ n5 ih5 =>
      intro p g hm hp hg w1 H locs h0 frm zz5 hP ls hl
      refine lv_iload_n hx hb dJ7_fill_53178_5 rfl (lv_at hl 2 rfl) ?_
      refine lv_iload_n hx hb dJ7_fill_53178_6 rfl (lv_at hl 3 rfl) ?_
      refine kl_ge (tgt := 20) hx hb (by omega) (by omega) dJ7_fill_53178_7 (by decide) (fun c7 => ?_) (fun c7 => ?_)
      · obtain ⟨w9, f9, fr9, hP⟩ := kl_arr (g := fun _ => x) hP h0 (fun q hq => hg q (by omega))
        have frm : ∀ j : Nat, j ≠ i → w9 j = w j := fun j k0 => (fr9 j k0).trans (frm j k0)
        exact kl_vretz hx hb hr hlocks hP ⟨f9, frm⟩ (by omega) dJ7_fill_53178_20
      · refine lv_aload_n hx hb dJ7_fill_53178_10 rfl (lv_at hl 0 rfl) ?_
        refine lv_iload_n hx hb dJ7_fill_53178_11 rfl (lv_at hl 2 rfl) ?_
        refine lv_iload_n hx hb dJ7_fill_53178_12 rfl (lv_at hl 1 rfl) ?_
        refine kl_iast hx hb hK hP h0 (by omega) (by omega) dJ7_fill_53178_13 (fun w1 H locs f2 fr3 hzw1 hP => ?_)
        have z4 : H.size = z + 0 := by omega
        have frm : ∀ j : Nat, j ≠ i → w1 j = w j := fun j k0 => (fr3 j k0).trans (frm j k0)
        refine lv_iinc (v := nI (p + 1)) (lv' := [(2, .int (nI (p + 1))), (0, .ref (B + i)), (1, .int x), (3, .int (nI n))]) hx hb dJ7_fill_53178_14 hl (k := 2) rfl (nI_1 _) (by decide) rfl (fun ls hl => ?_)
        refine lv_goto (tgt := 5) hx hb dJ7_fill_53178_17 (by decide) ?_
        exact ih5 (p + 1) (upd g p x) (by omega) (by first | omega | grind) (mt_upd_lt hg) _ _ _ f2 frm (by omega) hP ls (lv_sub hl [1, 2, 0, 3] rfl)
  exact lp5 (n + 1) 0 f (Nat.lt_succ_of_le (by omega)) (by first | omega | grind) (fun q hq => absurd hq (Nat.not_lt_zero q)) _ _ _ h0 frm (by omega) hP ls (lv_sub hl [2, 3, 1, 0] rfl)

abbrev rm_J7_copyOf_59c91 : Room := { frames := 1, cells := 1, slots := 10, locals := 40 }
set_option maxHeartbeats 4000000 in
set_option maxRecDepth 100000 in
theorem c_J7_copyOf_59c91 (l : Launch) (G : kl_G) (B : Nat) (w : kl_M) (i n len : Nat) {f : Nat → Int32} (h0 : w i = some (kl_aI G len f)) (hn : n ≤ len) (hl2 : n ≤ 10) (hl3 : len < 2 ^ 20) : Met l yJ7_copyOf_59c91 wsJ7_copyOf_59c91 rm_J7_copyOf_59c91 (kl_Pc G B w [.ref (B + i), .int (nI n)]) (kl_Qr G B (fun r w1 => w1 r = some (kl_aI G n f) ∧ (∀ j, j ≠ r → w1 j = w j) ∧ ∀ (j : Nat) (e : va_E), w j = some e → j < r)) 1 10 (kl_fr B) := by
  refine Met.ofW (cc := cJ7_copyOf_59c91) (maxL := 3) (ret := (some (.array .int))) (by decide) rfl ?_
  intro pg e s m args below meth cd s₁ Bd hml hv
  obtain ⟨rfl, hP0, hK⟩ := hv
  have hx := Bd.exec
  have hb := Bd.bytes
  have hr := Bd.returns
  have hts := atoms_spec (ws := wsJ7_copyOf_59c91) Bd.pre
  have hown : s.vm.findClass RJ7 = some m.cls := findClass_of_methodNamed Bd.named
  have hlocks := Bd.notSynchronized
  have hP := kl_S.rf hP0
  have hl := lv_entry ([.ref (B + i), .int (nI n)]) (n := 3) (Nat.le_of_ble_eq_true rfl)
  rw [lg_entry_eq]
  generalize (lg_sl ([.ref (B + i), .int (nI n)]) ++ List.replicate (3 - (lg_sl ([.ref (B + i), .int (nI n)])).length) Slot.unset).toArray = ls at hl ⊢
  have hl : lv_has ls 3 [(0, .ref (B + i)), (1, .int (nI n))] := hl
  have frm : ∀ (j : Nat) (e : va_E), w j = some e → w j = some e := fun j e hj  => hj
  have hold : ∀ (j : Nat) (e : va_E), w j = some e → B + j < s.heap.size := fun j e h => hP.lt h
  refine lv_iload_n hx hb dJ7_copyOf_59c91_0 rfl (lv_at hl 1 rfl) ?_
  refine lv_aload_n hx hb dJ7_copyOf_59c91_1 rfl (lv_at hl 0 rfl) ?_
  refine kl_alen hx hb hK hP 0 (k0 := 0) h0 rfl dJ7_copyOf_59c91_2 ?_
  refine kl_top (z := nI len) rfl ?_
  refine kl_ne (tgt := 14) hx hb (by omega) (by omega) dJ7_copyOf_59c91_3 (by decide) (fun c3 => ?_) (fun c3 => ?_)
  · refine lv_iload_n hx hb dJ7_copyOf_59c91_14 rfl (lv_at hl 1 rfl) ?_
    have hle := hP.2.1.1
    have lh0 := hP.lt h0
    refine kl_newI hx hb (hts (.arrayClass .int) (by decide +kernel)) hK hP (n := n) (by omega) (Nat.le_of_ble_eq_true rfl) (by first | exact Nat.le_of_ble_eq_true rfl | (show 0 + n ≤ 10; omega)) dJ7_copyOf_59c91_15 (fun a1 w2 H hq5 f3 fr4 hzw2 hP => ?_)
    have hgea1 : s.heap.size ≤ B + a1 := by omega
    have f3 : w2 a1 = some (kl_aI G n ((fun _ => 0))) := f3
    have h0 : w2 i = some (kl_aI G len f) := (fr4 _ (by omega)).trans h0
    have frm : ∀ (j : Nat) (e : va_E), w j = some e → w2 j = some e := fun j e hj  => (fr4 j (by have := hold j e hj; omega)).trans (frm j e hj )
    refine lv_astore_n (lv' := [(2, .ref (B + a1)), (0, .ref (B + i)), (1, .int (nI n))]) hx hb dJ7_copyOf_59c91_17 rfl hl (by decide) rfl (fun ls hl => ?_)
    refine lv_aload_n hx hb dJ7_copyOf_59c91_18 rfl (lv_at hl 1 rfl) ?_
    refine lv_iconst (v := nI 0) hx hb dJ7_copyOf_59c91_19 (by decide) ?_
    refine lv_aload_n hx hb dJ7_copyOf_59c91_20 rfl (lv_at hl 0 rfl) ?_
    refine lv_iconst (v := nI 0) hx hb dJ7_copyOf_59c91_21 (by decide) ?_
    refine lv_aload_n hx hb dJ7_copyOf_59c91_22 rfl (lv_at hl 1 rfl) ?_
    refine kl_alen hx hb hK hP 0 (k0 := 0) h0 rfl dJ7_copyOf_59c91_23 ?_
    refine kl_top (z := nI len) rfl ?_
    refine lv_iload_n hx hb dJ7_copyOf_59c91_24 rfl (lv_at hl 2 rfl) ?_
    refine va_mmin hx hb (hml.trans hl.1.symm) hown (hts (.methodLink RJ7 304 Lib.Math.min.name) (by decide +kernel)) (hts (.static Lib.Math.min.name) (by decide +kernel)) (hts (.initialized "java/lang/Math") (by decide +kernel)) (hts (.code Lib.Math.min.name Lib.Math.min.code 2 (some .int)) (by decide +kernel)) (Nat.le_of_ble_eq_true rfl) (Nat.le_of_ble_eq_true rfl) (Nat.le_of_ble_eq_true rfl) (by show 0 + n ≤ 10; omega) dJ7_copyOf_59c91_25 ?_
    refine kl_top (z := nI n) (mt_min (by omega) (by omega)) ?_
    refine kl_copyi hx hb (hml.trans hl.1.symm) hown (hts (.methodLink RJ7 150 arraycopyName) (by decide +kernel)) (hts (.native arraycopyName) (by decide +kernel)) (hts (.static arraycopyName) (by decide +kernel)) (hts (.initialized "java/lang/System") (by decide +kernel)) hK hP h0 f3 (by omega) (by omega) (by omega) (Nat.le_of_ble_eq_true rfl) (Nat.le_of_ble_eq_true (by decide)) dJ7_copyOf_59c91_28 (fun w6 H locs f7 fr8 hzw6 hP => ?_)
    have h0 : w6 i = some (kl_aI G len f) := (fr8 _ (by omega)).trans h0
    have frm : ∀ (j : Nat) (e : va_E), w j = some e → w6 j = some e := fun j e hj  => (fr8 j (by have := hold j e hj; omega)).trans (frm j e hj )
    obtain ⟨w9, f9, fr9, hP⟩ := kl_arr (g := f) hP f7 (fun q hq => (pk_cpy_in (Nat.zero_le _) (by omega)).trans (by rw [Nat.zero_add, Nat.sub_zero]))
    have fra : ∀ j, j ≠ a1 → w9 j = w j := fun j hj => by rw [fr9 j hj, fr8 j hj, fr4 j hj]
    refine lv_aload_n hx hb dJ7_copyOf_59c91_31 rfl (lv_at hl 0 rfl) ?_
    refine W.widen (k := 1) (n := 10) (by omega) (by omega) ?_
    exact kl_aret hx hb hr (Or.inr ⟨_, rfl⟩) hlocks hP ⟨f9, fra, fun j e hj => by have := hold j e hj; omega⟩ dJ7_copyOf_59c91_32
  · refine lv_aload_n hx hb dJ7_copyOf_59c91_6 rfl (lv_at hl 0 rfl) ?_
    have hle := hP.2.1.1
    have lh0 := hP.lt h0
    refine kl_clone hx hb (hml.trans hl.1.symm) hown (hts (.methodLink RJ7 316 ⟨"[I", "clone", "()Ljava/lang/Object;"⟩) (by decide +kernel)) (hts (.sameMethod "[I" "java/lang/Object" "clone" "()Ljava/lang/Object;") (by decide +kernel)) (hts (.native ⟨"java/lang/Object", "clone", "()Ljava/lang/Object;"⟩) (by decide +kernel)) (hts (.instanceMethod ⟨"java/lang/Object", "clone", "()Ljava/lang/Object;"⟩) (by decide +kernel)) (hts (.selects "[I" ⟨"[I", "clone", "()Ljava/lang/Object;"⟩ ⟨"java/lang/Object", "clone", "()Ljava/lang/Object;"⟩) (by decide +kernel)) hK hP h0 (Nat.le_of_ble_eq_true rfl) (Nat.le_of_ble_eq_true rfl) (Nat.le_of_ble_eq_true rfl) (by show 0 + len ≤ 10; omega) dJ7_copyOf_59c91_7 (fun a9 w10 H hq13 f11 fr12 hzw10 hP => ?_)
    have hgea9 : s.heap.size ≤ B + a9 := by omega
    have f11 : w10 a9 = some (kl_aI G len f) := f11
    have h0 : w10 i = some (kl_aI G len f) := (fr12 _ (by omega)).trans h0
    have frm : ∀ (j : Nat) (e : va_E), w j = some e → w10 j = some e := fun j e hj  => (fr12 j (by have := hold j e hj; omega)).trans (frm j e hj )
    rw [show len = n by omega] at f11
    have fra : ∀ j, j ≠ a9 → w10 j = w j := fun j hj => fr12 j hj
    refine va_castA hx hb hown (hts (.classLink RJ7 317 "[I") (by decide +kernel)) (hP.one f11) 0 rfl (hK.1.2 0 (G.2 0, .int) rfl).2 dJ7_copyOf_59c91_10 ?_
    refine W.widen (k := 1) (n := 10) (by omega) (by omega) ?_
    exact kl_aret hx hb hr (Or.inr ⟨_, rfl⟩) hlocks hP ⟨f11, fra, fun j e hj => by have := hold j e hj; omega⟩ dJ7_copyOf_59c91_13

abbrev rm_X2_init : Room := { frames := 1, cells := 2, slots := 120, locals := 23 }
set_option maxHeartbeats 4000000 in
set_option maxRecDepth 100000 in
theorem c_X2_init (l : Launch) (G : kl_G) (B : Nat) (w : kl_M) (i q : Nat) (h0 : w i = some (.inr (2, [.null, .null]))) (hiq : i < q) : Met l yX2_init wsX2_init rm_X2_init (kl_Pz G B (B + q) w [.ref (B + i)]) (kl_Qz G B 2 (fun w1 => w1 i = some (.inr (2, [.ref (B + q), .ref (B + (q + 1))])) ∧ w1 q = some (kl_aI G 24 (fun _ => (-1))) ∧ w1 (q + 1) = some (kl_aI G 96 (fun _ => 0)) ∧ ∀ j, j ≠ i → j ≠ q → j ≠ q + 1 → w1 j = w j)) 2 120 (kl_fr B) := by
  refine Met.ofW (cc := cX2_init) (maxL := 1) (ret := none) (by decide) rfl ?_
  intro pg e s m args below meth cd s₁ Bd hml hv
  obtain ⟨rfl, hsz, hP0, hK⟩ := hv
  have hx := Bd.exec
  have hb := Bd.bytes
  have hr := Bd.returns
  have hts := atoms_spec (ws := wsX2_init) Bd.pre
  have hown : s.vm.findClass RX2 = some m.cls := findClass_of_methodNamed Bd.named
  have hlocks := Bd.notSynchronized
  have hin2 : meth.name = "<init>" := (name_of_methodNamed Bd.named Bd.method).1
  have hinX2 : ∀ w ∈ u_ws RX2 TX2 2, w ∈ wsX2_init := by decide +kernel
  have hP := kl_S.rf hP0
  have hl := lv_entry ([.ref (B + i)]) (n := 1) (Nat.le_of_ble_eq_true rfl)
  rw [lg_entry_eq]
  generalize (lg_sl ([.ref (B + i)]) ++ List.replicate (1 - (lg_sl ([.ref (B + i)])).length) Slot.unset).toArray = ls at hl ⊢
  have hl : lv_has ls 1 [(0, .ref (B + i))] := hl
  have frm : ∀ j : Nat, j ≠ i → j ≠ q → j ≠ (q + 1) → w j = w j := fun j _ _ _ => rfl
  have hz0 : s.heap.size = B + q + 0 := hsz
  refine lv_aload_n hx hb dX2_init_0 rfl (lv_at hl 0 rfl) ?_
  refine W.objInit hx hb hown (hts (.methodLink RX2 3 objectInit) (by decide +kernel)) (hts (.instanceMethod objectInit) (by decide +kernel)) (hts (.code objectInit ⟨#[0xb1]⟩ 1 none) (by decide +kernel)) rfl (by rw [hml]; exact hl.1) rfl dX2_init_1 (Nat.le_of_ble_eq_true rfl) (Nat.le_of_ble_eq_true rfl) ?_
  refine W.eq (g2 := F0 m 4 ls []) rfl ?_
  refine lv_aload_n hx hb dX2_init_4 rfl (lv_at hl 0 rfl) ?_
  refine lv_bipush (v := nI 24) hx hb dX2_init_5 (by decide) ?_
  refine kl_newI hx hb (hts (.arrayClass .int) (by decide +kernel)) hK hP (n := 24) (by omega) (Nat.le_of_ble_eq_true rfl) (by first | exact Nat.le_of_ble_eq_true rfl | (show 0 + 24 ≤ 120; omega)) dX2_init_7 (fun a1 w2 H hq5 f3 fr4 hzw2 hP => ?_)
  have z6 : H.size = B + q + 1 := by omega
  obtain rfl : q = a1 := by omega
  have f3 : w2 q = some (kl_aI G 24 ((fun _ => 0))) := f3
  have h0 : w2 i = some (.inr (2, [.null, .null])) := (fr4 _ (by omega)).trans h0
  have frm : ∀ j : Nat, j ≠ i → j ≠ q → j ≠ (q + 1) → w2 j = w j := fun j k0 k1 k2 => (fr4 j k1).trans (frm j k0 k1 k2)
  refine kl_putF (C := RX2) (T := TX2) (N := 2) (ci := 2) (v := .ref (B + q)) (ty := (.array .int)) hx hb hts hinX2 tyX2 tyX2_ok nmX2 hown hK hP h0 rfl 0 (by decide) (hts (.fieldLink RX2 9 "KinLedger$Rows" "tables" "[I") (by decide +kernel)) (fun _ h9 => h9) rfl hin2 rfl (by decide +kernel) rfl rfl (Nat.le_of_ble_eq_true rfl) dX2_init_9 (fun w7 H locs f8 fr9 hzw7 hP => ?_)
  have z10 : H.size = B + q + 1 := by omega
  have f8 : w7 i = some (.inr (2, [.ref (B + q), .null])) := f8
  have f3 : w7 q = some (kl_aI G 24 ((fun _ => 0))) := (fr9 _ (by omega)).trans f3
  have frm : ∀ j : Nat, j ≠ i → j ≠ q → j ≠ (q + 1) → w7 j = w j := fun j k0 k1 k2 => (fr9 j k0).trans (frm j k0 k1 k2)
  refine lv_aload_n hx hb dX2_init_12 rfl (lv_at hl 0 rfl) ?_
  refine lv_bipush (v := nI 96) hx hb dX2_init_13 (by decide) ?_
  refine kl_newI hx hb (hts (.arrayClass .int) (by decide +kernel)) hK hP (n := 96) (by omega) (Nat.le_of_ble_eq_true rfl) (by first | exact Nat.le_of_ble_eq_true rfl | (show 0 + 24 + 96 ≤ 120; omega)) dX2_init_15 (fun a11 w12 H hq15 f13 fr14 hzw12 hP => ?_)
  have z16 : H.size = B + q + 2 := by omega
  obtain rfl : q + 1 = a11 := by omega
  have f13 : w12 (q + 1) = some (kl_aI G 96 ((fun _ => 0))) := f13
  have f8 : w12 i = some (.inr (2, [.ref (B + q), .null])) := (fr14 _ (by omega)).trans f8
  have f3 : w12 q = some (kl_aI G 24 ((fun _ => 0))) := (fr14 _ (by omega)).trans f3
  have frm : ∀ j : Nat, j ≠ i → j ≠ q → j ≠ (q + 1) → w12 j = w j := fun j k0 k1 k2 => (fr14 j k2).trans (frm j k0 k1 k2)
  refine kl_putF (C := RX2) (T := TX2) (N := 2) (ci := 2) (v := .ref (B + (q + 1))) (ty := (.array .int)) hx hb hts hinX2 tyX2 tyX2_ok nmX2 hown hK hP f8 rfl 1 (by decide) (hts (.fieldLink RX2 15 "KinLedger$Rows" "cells" "[I") (by decide +kernel)) (fun _ h9 => h9) rfl hin2 rfl (by decide +kernel) rfl rfl (Nat.le_of_ble_eq_true rfl) dX2_init_17 (fun w17 H locs f18 fr19 hzw17 hP => ?_)
  have z20 : H.size = B + q + 2 := by omega
  have f18 : w17 i = some (.inr (2, [.ref (B + q), .ref (B + (q + 1))])) := f18
  have f3 : w17 q = some (kl_aI G 24 ((fun _ => 0))) := (fr19 _ (by omega)).trans f3
  have f13 : w17 (q + 1) = some (kl_aI G 96 ((fun _ => 0))) := (fr19 _ (by omega)).trans f13
  have frm : ∀ j : Nat, j ≠ i → j ≠ q → j ≠ (q + 1) → w17 j = w j := fun j k0 k1 k2 => (fr19 j k0).trans (frm j k0 k1 k2)
  refine lv_aload_n hx hb dX2_init_20 rfl (lv_at hl 0 rfl) ?_
  refine kl_get (C := RX2) (T := TX2) (N := 2) (ci := 2) hx hb hts hinX2 hown hK hP f18 rfl 0 (by decide) (hts (.fieldLink RX2 9 "KinLedger$Rows" "tables" "[I") (by decide +kernel)) (fun _ h9 => h9) rfl dX2_init_21 ?_
  refine lv_iconst (v := (-1)) hx hb dX2_init_24 (by decide) ?_
  refine kl_cSz (As := [.ref (B + q), .int ((-1))]) (rest := []) ⟨hx, hb, hml, hown, hts⟩ (c_J7_fill_53178 l G B _ q 24 _ ((-1)) f3 (by omega)) (va_cwS 2 hts gX2_init_J7_fill_53178 rfl rfl rfl (by decide +kernel) ⟨Nat.le_of_ble_eq_true rfl, Nat.le_of_ble_eq_true rfl⟩) (by first | omega | rfl) hK hP rfl hl.1 rfl (Nat.le_of_ble_eq_true rfl) dX2_init_25 ⟨Nat.le_of_ble_eq_true rfl, Nat.le_of_ble_eq_true rfl⟩ (fun w21 H locs q22 hzw21 hP => ?_)
  have z24 : H.size = B + q + 2 := by omega
  obtain ⟨f25, fr26⟩ := q22
  have f18 : w21 i = some (.inr (2, [.ref (B + q), .ref (B + (q + 1))])) := (fr26 _ (by omega)).trans f18
  have f13 : w21 (q + 1) = some (kl_aI G 96 ((fun _ => 0))) := (fr26 _ (by omega)).trans f13
  have frm : ∀ j : Nat, j ≠ i → j ≠ q → j ≠ (q + 1) → w21 j = w j := fun j k0 k1 k2 => (fr26 j k1).trans (frm j k0 k1 k2)
  refine W.widen (k := 2) (n := 120) (by omega) (by omega) ?_
  exact kl_vretz hx hb hr hlocks hP ⟨f18, f25, f13, frm⟩ (by omega) dX2_init_28

abbrev rm_X1_init : Room := { frames := 1, cells := 0, slots := 0, locals := 12 }
set_option maxHeartbeats 4000000 in
set_option maxRecDepth 100000 in
theorem c_X1_init (l : Launch) (G : kl_G) (B : Nat) (w : kl_M) (k z : Nat) (ch : Int32) (co : Nat) (pa wy : Int32) (h0 : w k = some (.inr (1, [.int (nI 0), .int (nI 0), .int (nI 0), .int (nI 0)])))  : Met l yX1_init wsX1_init rm_X1_init (kl_Pz G B z w [.ref (B + k), .int ch, .int (nI co), .int pa, .int wy]) (kl_Qz G B 0 (fun w1 => w1 k = some (.inr (1, [.int ch, .int (nI co), .int pa, .int wy])) ∧ ∀ j, j ≠ k → w1 j = w j)) 0 0 (kl_fr B) := by
  refine Met.ofW (cc := cX1_init) (maxL := 5) (ret := none) (by decide) rfl ?_
  intro pg e s m args below meth cd s₁ Bd hml hv
  obtain ⟨rfl, hsz, hP0, hK⟩ := hv
  have hx := Bd.exec
  have hb := Bd.bytes
  have hr := Bd.returns
  have hts := atoms_spec (ws := wsX1_init) Bd.pre
  have hown : s.vm.findClass RX1 = some m.cls := findClass_of_methodNamed Bd.named
  have hlocks := Bd.notSynchronized
  have hin2 : meth.name = "<init>" := (name_of_methodNamed Bd.named Bd.method).1
  have hinX1 : ∀ w ∈ u_ws RX1 TX1 4, w ∈ wsX1_init := by decide +kernel
  have hP := kl_S.rf hP0
  have hl := lv_entry ([.ref (B + k), .int ch, .int (nI co), .int pa, .int wy]) (n := 5) (Nat.le_of_ble_eq_true rfl)
  rw [lg_entry_eq]
  generalize (lg_sl ([.ref (B + k), .int ch, .int (nI co), .int pa, .int wy]) ++ List.replicate (5 - (lg_sl ([.ref (B + k), .int ch, .int (nI co), .int pa, .int wy])).length) Slot.unset).toArray = ls at hl ⊢
  have hl : lv_has ls 5 [(0, .ref (B + k)), (1, .int ch), (2, .int (nI co)), (3, .int pa), (4, .int wy)] := hl
  have frm : ∀ j : Nat, j ≠ k → w j = w j := fun j _ => rfl
  have hz0 : s.heap.size = z + 0 := hsz
  refine lv_aload_n hx hb dX1_init_0 rfl (lv_at hl 0 rfl) ?_
  refine W.objInit hx hb hown (hts (.methodLink RX1 3 objectInit) (by decide +kernel)) (hts (.instanceMethod objectInit) (by decide +kernel)) (hts (.code objectInit ⟨#[0xb1]⟩ 1 none) (by decide +kernel)) rfl (by rw [hml]; exact hl.1) rfl dX1_init_1 (Nat.le_of_ble_eq_true rfl) (Nat.le_of_ble_eq_true rfl) ?_
  refine W.eq (g2 := F0 m 4 ls []) rfl ?_
  refine lv_aload_n hx hb dX1_init_4 rfl (lv_at hl 0 rfl) ?_
  refine lv_iload_n hx hb dX1_init_5 rfl (lv_at hl 1 rfl) ?_
  refine kl_putF (C := RX1) (T := TX1) (N := 4) (ci := 1) (v := .int ch) (ty := .int) hx hb hts hinX1 tyX1 tyX1_ok nmX1 hown hK hP h0 rfl 0 (by decide) (hts (.fieldLink RX1 9 "KinLedger$Link" "child" "I") (by decide +kernel)) (fun _ h9 => h9) rfl hin2 rfl (by decide +kernel) rfl rfl (Nat.le_of_ble_eq_true rfl) dX1_init_6 (fun w1 H locs f2 fr3 hzw1 hP => ?_)
  have z4 : H.size = z + 0 := by omega
  have f2 : w1 k = some (.inr (1, [.int ch, .int (nI 0), .int (nI 0), .int (nI 0)])) := f2
  have frm : ∀ j : Nat, j ≠ k → w1 j = w j := fun j k0 => (fr3 j k0).trans (frm j k0)
  refine lv_aload_n hx hb dX1_init_9 rfl (lv_at hl 0 rfl) ?_
  refine lv_iload_n hx hb dX1_init_10 rfl (lv_at hl 2 rfl) ?_
  refine kl_putF (C := RX1) (T := TX1) (N := 4) (ci := 1) (v := .int (nI co)) (ty := .int) hx hb hts hinX1 tyX1 tyX1_ok nmX1 hown hK hP f2 rfl 1 (by decide) (hts (.fieldLink RX1 15 "KinLedger$Link" "column" "I") (by decide +kernel)) (fun _ h9 => h9) rfl hin2 rfl (by decide +kernel) rfl rfl (Nat.le_of_ble_eq_true rfl) dX1_init_11 (fun w5 H locs f6 fr7 hzw5 hP => ?_)
  have z8 : H.size = z + 0 := by omega
  have f6 : w5 k = some (.inr (1, [.int ch, .int (nI co), .int (nI 0), .int (nI 0)])) := f6
  have frm : ∀ j : Nat, j ≠ k → w5 j = w j := fun j k0 => (fr7 j k0).trans (frm j k0)
  refine lv_aload_n hx hb dX1_init_14 rfl (lv_at hl 0 rfl) ?_
  refine lv_iload_n hx hb dX1_init_15 rfl (lv_at hl 3 rfl) ?_
  refine kl_putF (C := RX1) (T := TX1) (N := 4) (ci := 1) (v := .int pa) (ty := .int) hx hb hts hinX1 tyX1 tyX1_ok nmX1 hown hK hP f6 rfl 2 (by decide) (hts (.fieldLink RX1 18 "KinLedger$Link" "parent" "I") (by decide +kernel)) (fun _ h9 => h9) rfl hin2 rfl (by decide +kernel) rfl rfl (Nat.le_of_ble_eq_true rfl) dX1_init_16 (fun w9 H locs f10 fr11 hzw9 hP => ?_)
  have z12 : H.size = z + 0 := by omega
  have f10 : w9 k = some (.inr (1, [.int ch, .int (nI co), .int pa, .int (nI 0)])) := f10
  have frm : ∀ j : Nat, j ≠ k → w9 j = w j := fun j k0 => (fr11 j k0).trans (frm j k0)
  refine lv_aload_n hx hb dX1_init_19 rfl (lv_at hl 0 rfl) ?_
  refine lv_iload hx hb dX1_init_20 (lv_at hl 4 rfl) ?_
  refine kl_putF (C := RX1) (T := TX1) (N := 4) (ci := 1) (v := .int wy) (ty := .int) hx hb hts hinX1 tyX1 tyX1_ok nmX1 hown hK hP f10 rfl 3 (by decide) (hts (.fieldLink RX1 21 "KinLedger$Link" "way" "I") (by decide +kernel)) (fun _ h9 => h9) rfl hin2 rfl (by decide +kernel) rfl rfl (Nat.le_of_ble_eq_true rfl) dX1_init_22 (fun w13 H locs f14 fr15 hzw13 hP => ?_)
  have z16 : H.size = z + 0 := by omega
  have f14 : w13 k = some (.inr (1, [.int ch, .int (nI co), .int pa, .int wy])) := f14
  have frm : ∀ j : Nat, j ≠ k → w13 j = w j := fun j k0 => (fr15 j k0).trans (frm j k0)
  exact kl_vretz hx hb hr hlocks hP ⟨f14, frm⟩ (by omega) dX1_init_25

abbrev rm_X3_init : Room := { frames := 1, cells := 0, slots := 0, locals := 12 }
set_option maxHeartbeats 4000000 in
set_option maxRecDepth 100000 in
theorem c_X3_init (l : Launch) (G : kl_G) (B : Nat) (w : kl_M) (k z : Nat) (tb : Int32) (co : Nat) (h0 : w k = some (.inr (3, [.int (nI 0), .int (nI 0)])))  : Met l yX3_init wsX3_init rm_X3_init (kl_Pz G B z w [.ref (B + k), .int tb, .int (nI co)]) (kl_Qz G B 0 (fun w1 => w1 k = some (.inr (3, [.int tb, .int (nI co)])) ∧ ∀ j, j ≠ k → w1 j = w j)) 0 0 (kl_fr B) := by
  refine Met.ofW (cc := cX3_init) (maxL := 3) (ret := none) (by decide) rfl ?_
  intro pg e s m args below meth cd s₁ Bd hml hv
  obtain ⟨rfl, hsz, hP0, hK⟩ := hv
  have hx := Bd.exec
  have hb := Bd.bytes
  have hr := Bd.returns
  have hts := atoms_spec (ws := wsX3_init) Bd.pre
  have hown : s.vm.findClass RX3 = some m.cls := findClass_of_methodNamed Bd.named
  have hlocks := Bd.notSynchronized
  have hin2 : meth.name = "<init>" := (name_of_methodNamed Bd.named Bd.method).1
  have hinX3 : ∀ w ∈ u_ws RX3 TX3 2, w ∈ wsX3_init := by decide +kernel
  have hP := kl_S.rf hP0
  have hl := lv_entry ([.ref (B + k), .int tb, .int (nI co)]) (n := 3) (Nat.le_of_ble_eq_true rfl)
  rw [lg_entry_eq]
  generalize (lg_sl ([.ref (B + k), .int tb, .int (nI co)]) ++ List.replicate (3 - (lg_sl ([.ref (B + k), .int tb, .int (nI co)])).length) Slot.unset).toArray = ls at hl ⊢
  have hl : lv_has ls 3 [(0, .ref (B + k)), (1, .int tb), (2, .int (nI co))] := hl
  have frm : ∀ j : Nat, j ≠ k → w j = w j := fun j _ => rfl
  have hz0 : s.heap.size = z + 0 := hsz
  refine lv_aload_n hx hb dX3_init_0 rfl (lv_at hl 0 rfl) ?_
  refine W.objInit hx hb hown (hts (.methodLink RX3 1 objectInit) (by decide +kernel)) (hts (.instanceMethod objectInit) (by decide +kernel)) (hts (.code objectInit ⟨#[0xb1]⟩ 1 none) (by decide +kernel)) rfl (by rw [hml]; exact hl.1) rfl dX3_init_1 (Nat.le_of_ble_eq_true rfl) (Nat.le_of_ble_eq_true rfl) ?_
  refine W.eq (g2 := F0 m 4 ls []) rfl ?_
  refine lv_aload_n hx hb dX3_init_4 rfl (lv_at hl 0 rfl) ?_
  refine lv_iload_n hx hb dX3_init_5 rfl (lv_at hl 1 rfl) ?_
  refine kl_putF (C := RX3) (T := TX3) (N := 2) (ci := 3) (v := .int tb) (ty := .int) hx hb hts hinX3 tyX3 tyX3_ok nmX3 hown hK hP h0 rfl 0 (by decide) (hts (.fieldLink RX3 7 "KinLedger$Single" "table" "I") (by decide +kernel)) (fun _ h9 => h9) rfl hin2 rfl (by decide +kernel) rfl rfl (Nat.le_of_ble_eq_true rfl) dX3_init_6 (fun w1 H locs f2 fr3 hzw1 hP => ?_)
  have z4 : H.size = z + 0 := by omega
  have f2 : w1 k = some (.inr (3, [.int tb, .int (nI 0)])) := f2
  have frm : ∀ j : Nat, j ≠ k → w1 j = w j := fun j k0 => (fr3 j k0).trans (frm j k0)
  refine lv_aload_n hx hb dX3_init_9 rfl (lv_at hl 0 rfl) ?_
  refine lv_iload_n hx hb dX3_init_10 rfl (lv_at hl 2 rfl) ?_
  refine kl_putF (C := RX3) (T := TX3) (N := 2) (ci := 3) (v := .int (nI co)) (ty := .int) hx hb hts hinX3 tyX3 tyX3_ok nmX3 hown hK hP f2 rfl 1 (by decide) (hts (.fieldLink RX3 13 "KinLedger$Single" "column" "I") (by decide +kernel)) (fun _ h9 => h9) rfl hin2 rfl (by decide +kernel) rfl rfl (Nat.le_of_ble_eq_true rfl) dX3_init_11 (fun w5 H locs f6 fr7 hzw5 hP => ?_)
  have z8 : H.size = z + 0 := by omega
  have f6 : w5 k = some (.inr (3, [.int tb, .int (nI co)])) := f6
  have frm : ∀ j : Nat, j ≠ k → w5 j = w j := fun j k0 => (fr7 j k0).trans (frm j k0)
  exact kl_vretz hx hb hr hlocks hP ⟨f6, frm⟩ (by omega) dX3_init_14

abbrev rm_X1_refers : Room := { frames := 1, cells := 0, slots := 0, locals := 22 }
set_option maxHeartbeats 4000000 in
set_option maxRecDepth 100000 in
theorem c_X1_refers (l : Launch) (G : kl_G) (B : Nat) (w : kl_M) (i a b : Nat) {T C : Nat → Int32} (k : Nat) {ch : Int32} {co : Nat} {pa wy : Int32} (p : Nat) (h3 : w k = some (.inr (1, [.int ch, .int (nI co), .int pa, .int wy]))) (h0 : w i = some (.inr (2, [.ref (B + a), .ref (B + b)]))) (h1 : w a = some (kl_aI G 24 T)) (h2 : w b = some (kl_aI G 96 C)) (hp : p < 24) (hco : co < 4) : Met l yX1_refers wsX1_refers rm_X1_refers (kl_Pc G B w [.ref (B + k), .ref (B + i), .int (nI p)]) (kl_Qi G B (fun r w1 => w = w1 ∧ kl_b r (T p = ch ∧ C (4 * p + co) ≠ 0))) 0 0 (kl_fr B) := by
  refine Met.ofW (cc := cX1_refers) (maxL := 3) (ret := (some .boolean)) (by decide) rfl ?_
  intro pg e s m args below meth cd s₁ Bd hml hv
  obtain ⟨rfl, hP0, hK⟩ := hv
  have hx := Bd.exec
  have hb := Bd.bytes
  have hr := Bd.returns
  have hts := atoms_spec (ws := wsX1_refers) Bd.pre
  have hown : s.vm.findClass RX1 = some m.cls := findClass_of_methodNamed Bd.named
  have hlocks := Bd.notSynchronized
  have hinX1 : ∀ w ∈ u_ws RX1 TX1 4, w ∈ wsX1_refers := by decide +kernel
  have hP := kl_S.rf hP0
  have hl := lv_entry ([.ref (B + k), .ref (B + i), .int (nI p)]) (n := 3) (Nat.le_of_ble_eq_true rfl)
  rw [lg_entry_eq]
  generalize (lg_sl ([.ref (B + k), .ref (B + i), .int (nI p)]) ++ List.replicate (3 - (lg_sl ([.ref (B + k), .ref (B + i), .int (nI p)])).length) Slot.unset).toArray = ls at hl ⊢
  have hl : lv_has ls 3 [(0, .ref (B + k)), (1, .ref (B + i)), (2, .int (nI p))] := hl
  refine lv_aload_n hx hb dX1_refers_0 rfl (lv_at hl 1 rfl) ?_
  refine lv_iload_n hx hb dX1_refers_1 rfl (lv_at hl 2 rfl) ?_
  refine lv_aload_n hx hb dX1_refers_2 rfl (lv_at hl 0 rfl) ?_
  refine kl_get (C := RX1) (T := TX1) (N := 4) (ci := 1) hx hb hts hinX1 hown hK hP h3 rfl 0 (by decide) (hts (.fieldLink RX1 9 "KinLedger$Link" "child" "I") (by decide +kernel)) (fun _ h9 => h9) rfl dX1_refers_3 ?_
  refine kl_cVi (C := RX2) (i := i) (As := [.int (nI p), .int ch]) (rest := []) ⟨hx, hb, hml, hown, hts⟩ (c_X2_holds l G B _ i a b p ch h0 h1 h2 (by omega)) (cwV 2 hts gX1_refers_X2_holds rfl rfl rfl (by decide +kernel) ⟨Nat.le_of_ble_eq_true rfl, Nat.le_of_ble_eq_true rfl⟩) hK hP h0 rfl rfl hl.1 rfl (Nat.le_of_ble_eq_true rfl) dX1_refers_6 ⟨Nat.le_of_ble_eq_true rfl, Nat.le_of_ble_eq_true rfl⟩ (fun r3 w1 H locs q2 hP => ?_)
  obtain ⟨rfl, h4⟩ := q2
  refine kl_ifeq (tgt := 28) hx hb h4 dX1_refers_9 (by decide) (fun c9 => ?_) (fun c9 => ?_)
  · refine lv_iconst (v := nI 0) hx hb dX1_refers_28 (by decide) ?_
    exact kl_zret hx hb hr hlocks (by decide) hP ⟨rfl, kl_b.f (fun z => c9 z.1)⟩ dX1_refers_29
  · refine lv_aload_n hx hb dX1_refers_12 rfl (lv_at hl 1 rfl) ?_
    refine lv_iload_n hx hb dX1_refers_13 rfl (lv_at hl 2 rfl) ?_
    refine lv_aload_n hx hb dX1_refers_14 rfl (lv_at hl 0 rfl) ?_
    refine kl_get (C := RX1) (T := TX1) (N := 4) (ci := 1) hx hb hts hinX1 hown hK hP h3 rfl 1 (by decide) (hts (.fieldLink RX1 15 "KinLedger$Link" "column" "I") (by decide +kernel)) (fun _ h9 => h9) rfl dX1_refers_15 ?_
    refine kl_cVi (C := RX2) (i := i) (As := [.int (nI p), .int (nI co)]) (rest := []) ⟨hx, hb, hml, hown, hts⟩ (c_X2_at l G B _ i a b p co h0 h1 h2 (by omega) (by omega)) (cwV 2 hts gX1_refers_X2_at rfl rfl rfl (by decide +kernel) ⟨Nat.le_of_ble_eq_true rfl, Nat.le_of_ble_eq_true rfl⟩) hK hP h0 rfl rfl hl.1 rfl (Nat.le_of_ble_eq_true rfl) dX1_refers_18 ⟨Nat.le_of_ble_eq_true rfl, Nat.le_of_ble_eq_true rfl⟩ (fun r7 w5 H locs q6 hP => ?_)
    obtain ⟨rfl, rfl⟩ := q6
    refine kl_top (z := C (4 * p + co)) rfl ?_
    refine lv_if_eq (tgt := 28) hx hb dX1_refers_21 (by decide) (fun c21 => ?_) (fun c21 => ?_)
    · refine lv_iconst (v := nI 0) hx hb dX1_refers_28 (by decide) ?_
      exact kl_zret hx hb hr hlocks (by decide) hP ⟨rfl, kl_b.f (fun z => z.2 c21)⟩ dX1_refers_29
    · refine lv_iconst (v := nI 1) hx hb dX1_refers_24 (by decide) ?_
      refine lv_goto (tgt := 29) hx hb dX1_refers_25 (by decide) ?_
      exact kl_zret hx hb hr hlocks (by decide) hP ⟨rfl, kl_b.t ⟨c9, c21⟩⟩ dX1_refers_29

abbrev rm_X1_target : Room := { frames := 2, cells := 0, slots := 0, locals := 45 }
set_option maxHeartbeats 4000000 in
set_option maxRecDepth 100000 in
theorem c_X1_target (l : Launch) (G : kl_G) (B : Nat) (w : kl_M) (i a b : Nat) {T C : Nat → Int32} (k : Nat) {ch : Int32} {co : Nat} {pa wy : Int32} (p : Nat) (h3 : w k = some (.inr (1, [.int ch, .int (nI co), .int pa, .int wy]))) (h0 : w i = some (.inr (2, [.ref (B + a), .ref (B + b)]))) (h1 : w a = some (kl_aI G 24 T)) (h2 : w b = some (kl_aI G 96 C)) (hp : p < 24) (hco : co < 4) : Met l yX1_target wsX1_target rm_X1_target (kl_Pc G B w [.ref (B + k), .ref (B + i), .int (nI p)]) (kl_Qi G B (fun r w1 => w = w1 ∧ mt_tgt T C ch co pa p r)) 0 0 (kl_fr B) := by
  refine Met.ofW (cc := cX1_target) (maxL := 3) (ret := (some .int)) (by decide) rfl ?_
  intro pg e s m args below meth cd s₁ Bd hml hv
  obtain ⟨rfl, hP0, hK⟩ := hv
  have hx := Bd.exec
  have hb := Bd.bytes
  have hr := Bd.returns
  have hts := atoms_spec (ws := wsX1_target) Bd.pre
  have hown : s.vm.findClass RX1 = some m.cls := findClass_of_methodNamed Bd.named
  have hlocks := Bd.notSynchronized
  have hinX1 : ∀ w ∈ u_ws RX1 TX1 4, w ∈ wsX1_target := by decide +kernel
  have hP := kl_S.rf hP0
  have hl := lv_entry ([.ref (B + k), .ref (B + i), .int (nI p)]) (n := 3) (Nat.le_of_ble_eq_true rfl)
  rw [lg_entry_eq]
  generalize (lg_sl ([.ref (B + k), .ref (B + i), .int (nI p)]) ++ List.replicate (3 - (lg_sl ([.ref (B + k), .ref (B + i), .int (nI p)])).length) Slot.unset).toArray = ls at hl ⊢
  have hl : lv_has ls 3 [(0, .ref (B + k)), (1, .ref (B + i)), (2, .int (nI p))] := hl
  refine lv_aload_n hx hb dX1_target_0 rfl (lv_at hl 0 rfl) ?_
  refine lv_aload_n hx hb dX1_target_1 rfl (lv_at hl 1 rfl) ?_
  refine lv_iload_n hx hb dX1_target_2 rfl (lv_at hl 2 rfl) ?_
  refine kl_cVi (C := RX1) (i := k) (As := [.ref (B + i), .int (nI p)]) (rest := []) ⟨hx, hb, hml, hown, hts⟩ (c_X1_refers l G B _ i a b k p h3 h0 h1 h2 (by omega) (by omega)) (cwV 2 hts gX1_target_X1_refers rfl rfl rfl (by decide +kernel) ⟨Nat.le_of_ble_eq_true rfl, Nat.le_of_ble_eq_true rfl⟩) hK hP h3 rfl rfl hl.1 rfl (Nat.le_of_ble_eq_true rfl) dX1_target_3 ⟨Nat.le_of_ble_eq_true rfl, Nat.le_of_ble_eq_true rfl⟩ (fun r3 w1 H locs q2 hP => ?_)
  obtain ⟨rfl, h4⟩ := q2
  refine kl_ifeq (tgt := 29) hx hb h4 dX1_target_6 (by decide) (fun c6 => ?_) (fun c6 => ?_)
  · refine lv_iconst (v := (-1)) hx hb dX1_target_29 (by decide) ?_
    exact kl_iret hx hb hr hlocks hP ⟨rfl, Or.inl ⟨rfl, fun q hq z => c6 ⟨z.1, z.2.1⟩⟩⟩ dX1_target_30
  · refine lv_aload_n hx hb dX1_target_9 rfl (lv_at hl 1 rfl) ?_
    refine lv_aload_n hx hb dX1_target_10 rfl (lv_at hl 0 rfl) ?_
    refine kl_get (C := RX1) (T := TX1) (N := 4) (ci := 1) hx hb hts hinX1 hown hK hP h3 rfl 2 (by decide) (hts (.fieldLink RX1 18 "KinLedger$Link" "parent" "I") (by decide +kernel)) (fun _ h9 => h9) rfl dX1_target_11 ?_
    refine lv_aload_n hx hb dX1_target_14 rfl (lv_at hl 1 rfl) ?_
    refine lv_iload_n hx hb dX1_target_15 rfl (lv_at hl 2 rfl) ?_
    refine lv_aload_n hx hb dX1_target_16 rfl (lv_at hl 0 rfl) ?_
    refine kl_get (C := RX1) (T := TX1) (N := 4) (ci := 1) hx hb hts hinX1 hown hK hP h3 rfl 1 (by decide) (hts (.fieldLink RX1 15 "KinLedger$Link" "column" "I") (by decide +kernel)) (fun _ h9 => h9) rfl dX1_target_17 ?_
    refine kl_cVi (C := RX2) (i := i) (As := [.int (nI p), .int (nI co)]) (rest := [.int pa, .ref (B + i)]) ⟨hx, hb, hml, hown, hts⟩ (c_X2_at l G B _ i a b p co h0 h1 h2 (by omega) (by omega)) (cwV 2 hts gX1_target_X2_at rfl rfl rfl (by decide +kernel) ⟨Nat.le_of_ble_eq_true rfl, Nat.le_of_ble_eq_true rfl⟩) hK hP h0 rfl rfl hl.1 rfl (Nat.le_of_ble_eq_true rfl) dX1_target_20 ⟨Nat.le_of_ble_eq_true rfl, Nat.le_of_ble_eq_true rfl⟩ (fun r7 w5 H locs q6 hP => ?_)
    obtain ⟨rfl, rfl⟩ := q6
    refine kl_top (z := C (4 * p + co)) rfl ?_
    refine kl_cVi (C := RX2) (i := i) (As := [.int pa, .int (C (4 * p + co))]) (rest := []) ⟨hx, hb, hml, hown, hts⟩ (c_X2_find l G B _ i a b pa (C (4 * p + co)) h0 h1 h2 ) (cwV 2 hts gX1_target_X2_find rfl rfl rfl (by decide +kernel) ⟨Nat.le_of_ble_eq_true rfl, Nat.le_of_ble_eq_true rfl⟩) hK hP h0 rfl rfl hl.1 rfl (Nat.le_of_ble_eq_true rfl) dX1_target_23 ⟨Nat.le_of_ble_eq_true rfl, Nat.le_of_ble_eq_true rfl⟩ (fun r10 w8 H locs q9 hP => ?_)
    obtain ⟨rfl, h11⟩ := q9
    rcases h11 with ⟨rfl, h11⟩ | ⟨p12, hp12, rfl, h11⟩
    · refine lv_goto (tgt := 30) hx hb dX1_target_26 (by decide) ?_
      exact kl_iret hx hb hr hlocks hP ⟨rfl, Or.inl ⟨rfl, fun q hq z => h11 q hq z.2.2⟩⟩ dX1_target_30
    · refine lv_goto (tgt := 30) hx hb dX1_target_26 (by decide) ?_
      exact kl_iret hx hb hr hlocks hP ⟨rfl, Or.inr ⟨p12, hp12, rfl, c6.1, c6.2, h11⟩⟩ dX1_target_30

abbrev rm_X1_isBroken : Room := { frames := 3, cells := 0, slots := 0, locals := 67 }
set_option maxHeartbeats 4000000 in
set_option maxRecDepth 100000 in
theorem c_X1_isBroken (l : Launch) (G : kl_G) (B : Nat) (w : kl_M) (i a b : Nat) {T C : Nat → Int32} (k : Nat) {ch : Int32} {co : Nat} {pa wy : Int32} (h3 : w k = some (.inr (1, [.int ch, .int (nI co), .int pa, .int wy]))) (h0 : w i = some (.inr (2, [.ref (B + a), .ref (B + b)]))) (h1 : w a = some (kl_aI G 24 T)) (h2 : w b = some (kl_aI G 96 C)) (hco : co < 4) : Met l yX1_isBroken wsX1_isBroken rm_X1_isBroken (kl_Pc G B w [.ref (B + k), .ref (B + i)]) (kl_Qi G B (fun r w1 => w = w1 ∧ kl_b r (mt_lbrk T C ch co pa))) 0 0 (kl_fr B) := by
  refine Met.ofW (cc := cX1_isBroken) (maxL := 3) (ret := (some .boolean)) (by decide) rfl ?_
  intro pg e s m args below meth cd s₁ Bd hml hv
  obtain ⟨rfl, hP0, hK⟩ := hv
  have hx := Bd.exec
  have hb := Bd.bytes
  have hr := Bd.returns
  have hts := atoms_spec (ws := wsX1_isBroken) Bd.pre
  have hown : s.vm.findClass RX1 = some m.cls := findClass_of_methodNamed Bd.named
  have hlocks := Bd.notSynchronized
  have hP := kl_S.rf hP0
  have hl := lv_entry ([.ref (B + k), .ref (B + i)]) (n := 3) (Nat.le_of_ble_eq_true rfl)
  rw [lg_entry_eq]
  generalize (lg_sl ([.ref (B + k), .ref (B + i)]) ++ List.replicate (3 - (lg_sl ([.ref (B + k), .ref (B + i)])).length) Slot.unset).toArray = ls at hl ⊢
  have hl : lv_has ls 3 [(0, .ref (B + k)), (1, .ref (B + i))] := hl
  refine lv_iconst (v := nI 0) hx hb dX1_isBroken_0 (by decide) ?_
  refine lv_istore_n (lv' := [(2, .int (nI 0)), (0, .ref (B + k)), (1, .ref (B + i))]) hx hb dX1_isBroken_1 rfl hl (by decide) rfl (fun ls hl => ?_)
  have lp2 : ∀ (n2 : Nat) (p : Nat), 24 - p < n2 → (p ≤ 24) → (∀ q, q < p → ¬ ((T q = ch ∧ C (4 * q + co) ≠ 0) ∧ ∀ j, j < 24 → ¬ mt_ref T C ch co pa q j)) → ∀ (H : Heap) (locs : List Loc), kl_S G B w s.heap H locs → ∀ ls : Array Slot, lv_has ls 3 [(0, .ref (B + k)), (1, .ref (B + i)), (2, .int (nI p))] → W pg l e rm_X1_isBroken s m ([.ref (B + k), .ref (B + i)] : List Value).toArray below meth cd H locs (0) (0) (MQ below (kl_Qi G B (fun r w1 => w = w1 ∧ kl_b r (mt_lbrk T C ch co pa))) ([.ref (B + k), .ref (B + i)] : List Value).toArray s 0 0 (kl_fr B)) (F0 m 2 ls []) := by
    intro n2
    induction n2 with
    | zero => intro p hm; exact absurd hm (Nat.not_lt_zero _)
    | succ n2 ih2 =>
      intro p hm hp hno H locs  hP ls hl
      refine lv_iload_n hx hb dX1_isBroken_2 rfl (lv_at hl 2 rfl) ?_
      refine lv_bipush (v := nI 24) hx hb dX1_isBroken_3 (by decide) ?_
      refine kl_ge (tgt := 35) hx hb (by omega) (by omega) dX1_isBroken_5 (by decide) (fun c5 => ?_) (fun c5 => ?_)
      · refine lv_iconst (v := nI 0) hx hb dX1_isBroken_35 (by decide) ?_
        exact kl_zret hx hb hr hlocks (by decide) hP ⟨rfl, kl_b.f (fun ⟨q, hq, z⟩ => hno q (by omega) z)⟩ dX1_isBroken_36
      · refine lv_aload_n hx hb dX1_isBroken_8 rfl (lv_at hl 0 rfl) ?_
        refine lv_aload_n hx hb dX1_isBroken_9 rfl (lv_at hl 1 rfl) ?_
        refine lv_iload_n hx hb dX1_isBroken_10 rfl (lv_at hl 2 rfl) ?_
        refine kl_cVi (C := RX1) (i := k) (As := [.ref (B + i), .int (nI p)]) (rest := []) ⟨hx, hb, hml, hown, hts⟩ (c_X1_refers l G B _ i a b k p h3 h0 h1 h2 (by omega) (by omega)) (cwV 2 hts gX1_isBroken_X1_refers rfl rfl rfl (by decide +kernel) ⟨Nat.le_of_ble_eq_true rfl, Nat.le_of_ble_eq_true rfl⟩) hK hP h3 rfl rfl hl.1 rfl (Nat.le_of_ble_eq_true rfl) dX1_isBroken_11 ⟨Nat.le_of_ble_eq_true rfl, Nat.le_of_ble_eq_true rfl⟩ (fun r3 w1 H locs q2 hP => ?_)
        obtain ⟨rfl, h4⟩ := q2
        refine kl_ifeq (tgt := 29) hx hb h4 dX1_isBroken_14 (by decide) (fun c14 => ?_) (fun c14 => ?_)
        · refine lv_iinc (v := nI (p + 1)) (lv' := [(2, .int (nI (p + 1))), (0, .ref (B + k)), (1, .ref (B + i))]) hx hb dX1_isBroken_29 hl (k := 2) rfl (nI_1 _) (by decide) rfl (fun ls hl => ?_)
          refine lv_goto (tgt := 2) hx hb dX1_isBroken_32 (by decide) ?_
          exact ih2 (p + 1) (by omega) (by first | omega | grind) (lt_s hno (fun z => c14 z.1)) _ _ hP ls (lv_sub hl [1, 2, 0] rfl)
        · refine lv_aload_n hx hb dX1_isBroken_17 rfl (lv_at hl 0 rfl) ?_
          refine lv_aload_n hx hb dX1_isBroken_18 rfl (lv_at hl 1 rfl) ?_
          refine lv_iload_n hx hb dX1_isBroken_19 rfl (lv_at hl 2 rfl) ?_
          refine kl_cVi (C := RX1) (i := k) (As := [.ref (B + i), .int (nI p)]) (rest := []) ⟨hx, hb, hml, hown, hts⟩ (c_X1_target l G B _ i a b k p h3 h0 h1 h2 (by omega) (by omega)) (cwV 2 hts gX1_isBroken_X1_target rfl rfl rfl (by decide +kernel) ⟨Nat.le_of_ble_eq_true rfl, Nat.le_of_ble_eq_true rfl⟩) hK hP h3 rfl rfl hl.1 rfl (Nat.le_of_ble_eq_true rfl) dX1_isBroken_20 ⟨Nat.le_of_ble_eq_true rfl, Nat.le_of_ble_eq_true rfl⟩ (fun r7 w5 H locs q6 hP => ?_)
          obtain ⟨rfl, h8⟩ := q6
          rcases h8 with ⟨rfl, h8⟩ | ⟨p9, hp9, rfl, h8⟩
          · refine lv_iconst (v := (-1)) hx hb dX1_isBroken_23 (by decide) ?_
            refine lv_icmp_ne (tgt := 29) hx hb dX1_isBroken_24 (by decide) (fun c24 => absurd rfl c24) (fun c24 => ?_)
            refine lv_iconst (v := nI 1) hx hb dX1_isBroken_27 (by decide) ?_
            exact kl_zret hx hb hr hlocks (by decide) hP ⟨rfl, kl_b.t ⟨p, by omega, c14, h8⟩⟩ dX1_isBroken_28
          · refine lv_iconst (v := (-1)) hx hb dX1_isBroken_23 (by decide) ?_
            refine lv_icmp_ne (tgt := 29) hx hb dX1_isBroken_24 (by decide) (fun c24 => ?_) (fun c24 => absurd c24 (kl_nm1 (by omega)))
            refine lv_iinc (v := nI (p + 1)) (lv' := [(2, .int (nI (p + 1))), (0, .ref (B + k)), (1, .ref (B + i))]) hx hb dX1_isBroken_29 hl (k := 2) rfl (nI_1 _) (by decide) rfl (fun ls hl => ?_)
            refine lv_goto (tgt := 2) hx hb dX1_isBroken_32 (by decide) ?_
            exact ih2 (p + 1) (by omega) (by first | omega | grind) (lt_s hno (fun z => z.2 p9 hp9 h8)) _ _ hP ls (lv_sub hl [1, 2, 0] rfl)
  exact lp2 (24 + 1) 0 (Nat.lt_succ_of_le (by omega)) (by first | omega | grind) lt_0 _ _ hP ls (lv_sub hl [1, 2, 0] rfl)

abbrev rm_X3_isBroken : Room := { frames := 3, cells := 0, slots := 0, locals := 68 }
set_option maxHeartbeats 4000000 in
set_option maxRecDepth 100000 in
theorem c_X3_isBroken (l : Launch) (G : kl_G) (B : Nat) (w : kl_M) (i a b : Nat) {T C : Nat → Int32} (k : Nat) {tb : Int32} {co : Nat} (h3 : w k = some (.inr (3, [.int tb, .int (nI co)]))) (h0 : w i = some (.inr (2, [.ref (B + a), .ref (B + b)]))) (h1 : w a = some (kl_aI G 24 T)) (h2 : w b = some (kl_aI G 96 C)) (hco : co < 4) : Met l yX3_isBroken wsX3_isBroken rm_X3_isBroken (kl_Pc G B w [.ref (B + k), .ref (B + i)]) (kl_Qi G B (fun r w1 => w = w1 ∧ kl_b r (mt_twin T C tb co))) 0 0 (kl_fr B) := by
  refine Met.ofW (cc := cX3_isBroken) (maxL := 2) (ret := (some .boolean)) (by decide) rfl ?_
  intro pg e s m args below meth cd s₁ Bd hml hv
  obtain ⟨rfl, hP0, hK⟩ := hv
  have hx := Bd.exec
  have hb := Bd.bytes
  have hr := Bd.returns
  have hts := atoms_spec (ws := wsX3_isBroken) Bd.pre
  have hown : s.vm.findClass RX3 = some m.cls := findClass_of_methodNamed Bd.named
  have hlocks := Bd.notSynchronized
  have hinX3 : ∀ w ∈ u_ws RX3 TX3 2, w ∈ wsX3_isBroken := by decide +kernel
  have hP := kl_S.rf hP0
  have hl := lv_entry ([.ref (B + k), .ref (B + i)]) (n := 2) (Nat.le_of_ble_eq_true rfl)
  rw [lg_entry_eq]
  generalize (lg_sl ([.ref (B + k), .ref (B + i)]) ++ List.replicate (2 - (lg_sl ([.ref (B + k), .ref (B + i)])).length) Slot.unset).toArray = ls at hl ⊢
  have hl : lv_has ls 2 [(0, .ref (B + k)), (1, .ref (B + i))] := hl
  refine lv_aload_n hx hb dX3_isBroken_0 rfl (lv_at hl 1 rfl) ?_
  refine lv_aload_n hx hb dX3_isBroken_1 rfl (lv_at hl 0 rfl) ?_
  refine kl_get (C := RX3) (T := TX3) (N := 2) (ci := 3) hx hb hts hinX3 hown hK hP h3 rfl 0 (by decide) (hts (.fieldLink RX3 7 "KinLedger$Single" "table" "I") (by decide +kernel)) (fun _ h9 => h9) rfl dX3_isBroken_2 ?_
  refine lv_aload_n hx hb dX3_isBroken_5 rfl (lv_at hl 0 rfl) ?_
  refine kl_get (C := RX3) (T := TX3) (N := 2) (ci := 3) hx hb hts hinX3 hown hK hP h3 rfl 1 (by decide) (hts (.fieldLink RX3 13 "KinLedger$Single" "column" "I") (by decide +kernel)) (fun _ h9 => h9) rfl dX3_isBroken_6 ?_
  refine kl_cVi (C := RX2) (i := i) (As := [.int tb, .int (nI co)]) (rest := []) ⟨hx, hb, hml, hown, hts⟩ (c_X2_hasTwins l G B _ i a b tb co h0 h1 h2 (by omega)) (cwV 2 hts gX3_isBroken_X2_hasTwins rfl rfl rfl (by decide +kernel) ⟨Nat.le_of_ble_eq_true rfl, Nat.le_of_ble_eq_true rfl⟩) hK hP h0 rfl rfl hl.1 rfl (Nat.le_of_ble_eq_true rfl) dX3_isBroken_9 ⟨Nat.le_of_ble_eq_true rfl, Nat.le_of_ble_eq_true rfl⟩ (fun r3 w1 H locs q2 hP => ?_)
  obtain ⟨rfl, h4⟩ := q2
  exact kl_zret hx hb hr hlocks h4.nar hP ⟨rfl, h4⟩ dX3_isBroken_12

abbrev rm_X0_isWord : Room := { frames := 0, cells := 0, slots := 0, locals := 0 }
set_option maxHeartbeats 4000000 in
set_option maxRecDepth 100000 in
theorem c_X0_isWord (l : Launch) (G : kl_G) (B : Nat) (w : kl_M) (n : Int32)  : Met l yX0_isWord wsX0_isWord rm_X0_isWord (kl_Pc G B w [.int n]) (kl_Qi G B (fun r w1 => w = w1 ∧ kl_b r (mt_word n))) 0 0 (kl_fr B) := by
  refine Met.ofW (cc := cX0_isWord) (maxL := 1) (ret := (some .boolean)) (by decide) rfl ?_
  intro pg e s m args below meth cd s₁ Bd hml hv
  obtain ⟨rfl, hP0, hK⟩ := hv
  have hx := Bd.exec
  have hb := Bd.bytes
  have hr := Bd.returns
  have hts := atoms_spec (ws := wsX0_isWord) Bd.pre
  have hown : s.vm.findClass RX0 = some m.cls := findClass_of_methodNamed Bd.named
  have hlocks := Bd.notSynchronized
  have hP := kl_S.rf hP0
  have hl := lv_entry ([.int n]) (n := 1) (Nat.le_of_ble_eq_true rfl)
  rw [lg_entry_eq]
  generalize (lg_sl ([.int n]) ++ List.replicate (1 - (lg_sl ([.int n])).length) Slot.unset).toArray = ls at hl ⊢
  have hl : lv_has ls 1 [(0, .int n)] := hl
  refine lv_iload_n hx hb dX0_isWord_0 rfl (lv_at hl 0 rfl) ?_
  refine lv_if_lt (tgt := 9) hx hb dX0_isWord_1 (by decide) (fun c1 => ?_) (fun c1 => ?_)
  · refine lv_iload_n hx hb dX0_isWord_9 rfl (lv_at hl 0 rfl) ?_
    refine lv_bipush (v := nI 10) hx hb dX0_isWord_10 (by decide) ?_
    refine lv_icmp_lt (tgt := 21) hx hb dX0_isWord_12 (by decide) (fun c12 => ?_) (fun c12 => ?_)
    · refine lv_iload_n hx hb dX0_isWord_21 rfl (lv_at hl 0 rfl) ?_
      refine lv_bipush (v := nI 100) hx hb dX0_isWord_22 (by decide) ?_
      refine lv_icmp_lt (tgt := 38) hx hb dX0_isWord_24 (by decide) (fun c24 => ?_) (fun c24 => ?_)
      · refine lv_iconst (v := nI 0) hx hb dX0_isWord_38 (by decide) ?_
        exact kl_zret hx hb hr hlocks (by decide) hP ⟨rfl, kl_b.f (by unfold mt_word; grind)⟩ dX0_isWord_39
      · refine lv_iload_n hx hb dX0_isWord_27 rfl (lv_at hl 0 rfl) ?_
        refine lv_sipush (v := nI 300) hx hb dX0_isWord_28 (by decide) ?_
        refine lv_icmp_gt (tgt := 38) hx hb dX0_isWord_31 (by decide) (fun c31 => ?_) (fun c31 => ?_)
        · refine lv_iconst (v := nI 0) hx hb dX0_isWord_38 (by decide) ?_
          exact kl_zret hx hb hr hlocks (by decide) hP ⟨rfl, kl_b.f (by unfold mt_word; grind)⟩ dX0_isWord_39
        · refine lv_iconst (v := nI 1) hx hb dX0_isWord_34 (by decide) ?_
          refine lv_goto (tgt := 39) hx hb dX0_isWord_35 (by decide) ?_
          exact kl_zret hx hb hr hlocks (by decide) hP ⟨rfl, kl_b.t (by unfold mt_word; grind)⟩ dX0_isWord_39
    · refine lv_iload_n hx hb dX0_isWord_15 rfl (lv_at hl 0 rfl) ?_
      refine lv_bipush (v := nI 17) hx hb dX0_isWord_16 (by decide) ?_
      refine lv_icmp_le (tgt := 34) hx hb dX0_isWord_18 (by decide) (fun c18 => ?_) (fun c18 => ?_)
      · refine lv_iconst (v := nI 1) hx hb dX0_isWord_34 (by decide) ?_
        refine lv_goto (tgt := 39) hx hb dX0_isWord_35 (by decide) ?_
        exact kl_zret hx hb hr hlocks (by decide) hP ⟨rfl, kl_b.t (by unfold mt_word; grind)⟩ dX0_isWord_39
      · refine lv_iload_n hx hb dX0_isWord_21 rfl (lv_at hl 0 rfl) ?_
        refine lv_bipush (v := nI 100) hx hb dX0_isWord_22 (by decide) ?_
        refine lv_icmp_lt (tgt := 38) hx hb dX0_isWord_24 (by decide) (fun c24 => ?_) (fun c24 => ?_)
        · refine lv_iconst (v := nI 0) hx hb dX0_isWord_38 (by decide) ?_
          exact kl_zret hx hb hr hlocks (by decide) hP ⟨rfl, kl_b.f (by unfold mt_word; grind)⟩ dX0_isWord_39
        · refine lv_iload_n hx hb dX0_isWord_27 rfl (lv_at hl 0 rfl) ?_
          refine lv_sipush (v := nI 300) hx hb dX0_isWord_28 (by decide) ?_
          refine lv_icmp_gt (tgt := 38) hx hb dX0_isWord_31 (by decide) (fun c31 => ?_) (fun c31 => ?_)
          · refine lv_iconst (v := nI 0) hx hb dX0_isWord_38 (by decide) ?_
            exact kl_zret hx hb hr hlocks (by decide) hP ⟨rfl, kl_b.f (by unfold mt_word; grind)⟩ dX0_isWord_39
          · refine lv_iconst (v := nI 1) hx hb dX0_isWord_34 (by decide) ?_
            refine lv_goto (tgt := 39) hx hb dX0_isWord_35 (by decide) ?_
            exact kl_zret hx hb hr hlocks (by decide) hP ⟨rfl, kl_b.t (by unfold mt_word; grind)⟩ dX0_isWord_39
  · refine lv_iload_n hx hb dX0_isWord_4 rfl (lv_at hl 0 rfl) ?_
    refine lv_iconst (v := nI 3) hx hb dX0_isWord_5 (by decide) ?_
    refine lv_icmp_le (tgt := 34) hx hb dX0_isWord_6 (by decide) (fun c6 => ?_) (fun c6 => ?_)
    · refine lv_iconst (v := nI 1) hx hb dX0_isWord_34 (by decide) ?_
      refine lv_goto (tgt := 39) hx hb dX0_isWord_35 (by decide) ?_
      exact kl_zret hx hb hr hlocks (by decide) hP ⟨rfl, kl_b.t (by unfold mt_word; grind)⟩ dX0_isWord_39
    · refine lv_iload_n hx hb dX0_isWord_9 rfl (lv_at hl 0 rfl) ?_
      refine lv_bipush (v := nI 10) hx hb dX0_isWord_10 (by decide) ?_
      refine lv_icmp_lt (tgt := 21) hx hb dX0_isWord_12 (by decide) (fun c12 => ?_) (fun c12 => ?_)
      · refine lv_iload_n hx hb dX0_isWord_21 rfl (lv_at hl 0 rfl) ?_
        refine lv_bipush (v := nI 100) hx hb dX0_isWord_22 (by decide) ?_
        refine lv_icmp_lt (tgt := 38) hx hb dX0_isWord_24 (by decide) (fun c24 => ?_) (fun c24 => ?_)
        · refine lv_iconst (v := nI 0) hx hb dX0_isWord_38 (by decide) ?_
          exact kl_zret hx hb hr hlocks (by decide) hP ⟨rfl, kl_b.f (by unfold mt_word; grind)⟩ dX0_isWord_39
        · refine lv_iload_n hx hb dX0_isWord_27 rfl (lv_at hl 0 rfl) ?_
          refine lv_sipush (v := nI 300) hx hb dX0_isWord_28 (by decide) ?_
          refine lv_icmp_gt (tgt := 38) hx hb dX0_isWord_31 (by decide) (fun c31 => ?_) (fun c31 => ?_)
          · refine lv_iconst (v := nI 0) hx hb dX0_isWord_38 (by decide) ?_
            exact kl_zret hx hb hr hlocks (by decide) hP ⟨rfl, kl_b.f (by unfold mt_word; grind)⟩ dX0_isWord_39
          · refine lv_iconst (v := nI 1) hx hb dX0_isWord_34 (by decide) ?_
            refine lv_goto (tgt := 39) hx hb dX0_isWord_35 (by decide) ?_
            exact kl_zret hx hb hr hlocks (by decide) hP ⟨rfl, kl_b.t (by unfold mt_word; grind)⟩ dX0_isWord_39
      · refine lv_iload_n hx hb dX0_isWord_15 rfl (lv_at hl 0 rfl) ?_
        refine lv_bipush (v := nI 17) hx hb dX0_isWord_16 (by decide) ?_
        refine lv_icmp_le (tgt := 34) hx hb dX0_isWord_18 (by decide) (fun c18 => ?_) (fun c18 => ?_)
        · refine lv_iconst (v := nI 1) hx hb dX0_isWord_34 (by decide) ?_
          refine lv_goto (tgt := 39) hx hb dX0_isWord_35 (by decide) ?_
          exact kl_zret hx hb hr hlocks (by decide) hP ⟨rfl, kl_b.t (by unfold mt_word; grind)⟩ dX0_isWord_39
        · refine lv_iload_n hx hb dX0_isWord_21 rfl (lv_at hl 0 rfl) ?_
          refine lv_bipush (v := nI 100) hx hb dX0_isWord_22 (by decide) ?_
          refine lv_icmp_lt (tgt := 38) hx hb dX0_isWord_24 (by decide) (fun c24 => ?_) (fun c24 => ?_)
          · refine lv_iconst (v := nI 0) hx hb dX0_isWord_38 (by decide) ?_
            exact kl_zret hx hb hr hlocks (by decide) hP ⟨rfl, kl_b.f (by unfold mt_word; grind)⟩ dX0_isWord_39
          · refine lv_iload_n hx hb dX0_isWord_27 rfl (lv_at hl 0 rfl) ?_
            refine lv_sipush (v := nI 300) hx hb dX0_isWord_28 (by decide) ?_
            refine lv_icmp_gt (tgt := 38) hx hb dX0_isWord_31 (by decide) (fun c31 => ?_) (fun c31 => ?_)
            · refine lv_iconst (v := nI 0) hx hb dX0_isWord_38 (by decide) ?_
              exact kl_zret hx hb hr hlocks (by decide) hP ⟨rfl, kl_b.f (by unfold mt_word; grind)⟩ dX0_isWord_39
            · refine lv_iconst (v := nI 1) hx hb dX0_isWord_34 (by decide) ?_
              refine lv_goto (tgt := 39) hx hb dX0_isWord_35 (by decide) ?_
              exact kl_zret hx hb hr hlocks (by decide) hP ⟨rfl, kl_b.t (by unfold mt_word; grind)⟩ dX0_isWord_39

abbrev rm_X0_taken : Room := { frames := 0, cells := 0, slots := 0, locals := 0 }
set_option maxHeartbeats 4000000 in
set_option maxRecDepth 100000 in
theorem c_X0_taken (l : Launch) (G : kl_G) (B : Nat) (w : kl_M) (n : Nat) (hn : n < 2 ^ 31) : Met l yX0_taken wsX0_taken rm_X0_taken (kl_Pc G B w [.int (nI n)]) (kl_Qi G B (fun r w1 => w = w1 ∧ r = nI (mt_tk n))) 0 0 (kl_fr B) := by
  refine Met.ofW (cc := cX0_taken) (maxL := 1) (ret := (some .int)) (by decide) rfl ?_
  intro pg e s m args below meth cd s₁ Bd hml hv
  obtain ⟨rfl, hP0, hK⟩ := hv
  have hx := Bd.exec
  have hb := Bd.bytes
  have hr := Bd.returns
  have hts := atoms_spec (ws := wsX0_taken) Bd.pre
  have hown : s.vm.findClass RX0 = some m.cls := findClass_of_methodNamed Bd.named
  have hlocks := Bd.notSynchronized
  have hP := kl_S.rf hP0
  have hl := lv_entry ([.int (nI n)]) (n := 1) (Nat.le_of_ble_eq_true rfl)
  rw [lg_entry_eq]
  generalize (lg_sl ([.int (nI n)]) ++ List.replicate (1 - (lg_sl ([.int (nI n)])).length) Slot.unset).toArray = ls at hl ⊢
  have hl : lv_has ls 1 [(0, .int (nI n))] := hl
  refine lv_iload_n hx hb dX0_taken_0 rfl (lv_at hl 0 rfl) ?_
  refine lv_bipush (v := nI 10) hx hb dX0_taken_1 (by decide) ?_
  refine kl_lt (tgt := 12) hx hb (by omega) (by omega) dX0_taken_3 (by decide) (fun c3 => ?_) (fun c3 => ?_)
  · refine lv_iconst (v := nI 0) hx hb dX0_taken_12 (by decide) ?_
    exact kl_iret hx hb hr hlocks hP ⟨rfl, congrArg nI (by unfold mt_tk; grind)⟩ dX0_taken_13
  · refine lv_iload_n hx hb dX0_taken_6 rfl (lv_at hl 0 rfl) ?_
    refine lv_bipush (v := nI 17) hx hb dX0_taken_7 (by decide) ?_
    refine kl_le (tgt := 14) hx hb (by omega) (by omega) dX0_taken_9 (by decide) (fun c9 => ?_) (fun c9 => ?_)
    · refine lv_iload_n hx hb dX0_taken_14 rfl (lv_at hl 0 rfl) ?_
      refine lv_bipush (v := nI 17) hx hb dX0_taken_15 (by decide) ?_
      refine kl_ne (tgt := 24) hx hb (by omega) (by omega) dX0_taken_17 (by decide) (fun c17 => ?_) (fun c17 => ?_)
      · refine lv_iconst (v := nI 2) hx hb dX0_taken_24 (by decide) ?_
        exact kl_iret hx hb hr hlocks hP ⟨rfl, congrArg nI (by unfold mt_tk; grind)⟩ dX0_taken_25
      · refine lv_iconst (v := nI 1) hx hb dX0_taken_20 (by decide) ?_
        refine lv_goto (tgt := 25) hx hb dX0_taken_21 (by decide) ?_
        exact kl_iret hx hb hr hlocks hP ⟨rfl, congrArg nI (by unfold mt_tk; grind)⟩ dX0_taken_25
    · refine lv_iconst (v := nI 0) hx hb dX0_taken_12 (by decide) ?_
      exact kl_iret hx hb hr hlocks hP ⟨rfl, congrArg nI (by unfold mt_tk; grind)⟩ dX0_taken_13

abbrev rm_X0_areRight : Room := { frames := 1, cells := 0, slots := 0, locals := 20 }
set_option maxHeartbeats 4000000 in
set_option maxRecDepth 100000 in
theorem c_X0_areRight (l : Launch) (G : kl_G) (B : Nat) (w : kl_M) (k n : Nat) {wd : Nat → Nat} (cols : Nat) (h0 : w k = some (kl_aI G n ((fun j => nI (wd j))))) (hw : ∀ j, j < n → wd j < 2 ^ 30) (hc : cols < 2 ^ 30) (hn : n < 2 ^ 20) : Met l yX0_areRight wsX0_areRight rm_X0_areRight (kl_Pc G B w [.ref (B + k), .int (nI cols)]) (kl_Qi G B (fun r w1 => w = w1 ∧ kl_b r (mt_right wd cols n))) 0 0 (kl_fr B) := by
  refine Met.ofW (cc := cX0_areRight) (maxL := 6) (ret := (some .boolean)) (by decide) rfl ?_
  intro pg e s m args below meth cd s₁ Bd hml hv
  obtain ⟨rfl, hP0, hK⟩ := hv
  have hx := Bd.exec
  have hb := Bd.bytes
  have hr := Bd.returns
  have hts := atoms_spec (ws := wsX0_areRight) Bd.pre
  have hown : s.vm.findClass RX0 = some m.cls := findClass_of_methodNamed Bd.named
  have hlocks := Bd.notSynchronized
  have hP := kl_S.rf hP0
  have hl := lv_entry ([.ref (B + k), .int (nI cols)]) (n := 6) (Nat.le_of_ble_eq_true rfl)
  rw [lg_entry_eq]
  generalize (lg_sl ([.ref (B + k), .int (nI cols)]) ++ List.replicate (6 - (lg_sl ([.ref (B + k), .int (nI cols)])).length) Slot.unset).toArray = ls at hl ⊢
  have hl : lv_has ls 6 [(0, .ref (B + k)), (1, .int (nI cols))] := hl
  refine lv_iconst (v := nI 0) hx hb dX0_areRight_0 (by decide) ?_
  refine lv_istore_n (lv' := [(2, .int (nI 0)), (0, .ref (B + k)), (1, .int (nI cols))]) hx hb dX0_areRight_1 rfl hl (by decide) rfl (fun ls hl => ?_)
  refine lv_iconst (v := nI 0) hx hb dX0_areRight_2 (by decide) ?_
  refine lv_istore_n (lv' := [(3, .int (nI 0)), (2, .int (nI 0)), (0, .ref (B + k)), (1, .int (nI cols))]) hx hb dX0_areRight_3 rfl hl (by decide) rfl (fun ls hl => ?_)
  have lp4 : ∀ (n4 : Nat) (p : Nat) (h : Nat), n - p < n4 → (p ≤ n) → (mt_h wd cols p = some h) → ∀ (H : Heap) (locs : List Loc), kl_S G B w s.heap H locs → ∀ ls : Array Slot, lv_has ls 6 [(0, .ref (B + k)), (1, .int (nI cols)), (2, .int (nI h)), (3, .int (nI p))] → W pg l e rm_X0_areRight s m ([.ref (B + k), .int (nI cols)] : List Value).toArray below meth cd H locs (0) (0) (MQ below (kl_Qi G B (fun r w1 => w = w1 ∧ kl_b r (mt_right wd cols n))) ([.ref (B + k), .int (nI cols)] : List Value).toArray s 0 0 (kl_fr B)) (F0 m 4 ls []) := by
    intro n4
    induction n4 with
    | zero => intro p h hm; exact absurd hm (Nat.not_lt_zero _)
    | succ n4 ih4 =>
      intro p h hm hp hh H locs  hP ls hl
      refine lv_iload_n hx hb dX0_areRight_4 rfl (lv_at hl 3 rfl) ?_
      refine lv_aload_n hx hb dX0_areRight_5 rfl (lv_at hl 0 rfl) ?_
      refine kl_alen hx hb hK hP 0 (k0 := 0) h0 rfl dX0_areRight_6 ?_
      refine kl_top (z := nI n) rfl ?_
      have hle2 := mt_h_le hh
      refine kl_ge (tgt := 65) hx hb (by omega) (by omega) dX0_areRight_7 (by decide) (fun c7 => ?_) (fun c7 => ?_)
      · refine lv_iload_n hx hb dX0_areRight_65 rfl (lv_at hl 2 rfl) ?_
        refine lv_iconst (v := nI 1) hx hb dX0_areRight_66 (by decide) ?_
        refine kl_ne (tgt := 74) hx hb (by omega) (by omega) dX0_areRight_67 (by decide) (fun c67 => ?_) (fun c67 => ?_)
        · refine lv_iconst (v := nI 0) hx hb dX0_areRight_74 (by decide) ?_
          exact kl_zret hx hb hr hlocks (by decide) hP ⟨rfl, kl_b.f (fun z => c67 (by have z : mt_h wd cols n = some 1 := z; rw [show n = p by omega, hh] at z; exact Option.some.inj z))⟩ dX0_areRight_75
        · refine lv_iconst (v := nI 1) hx hb dX0_areRight_70 (by decide) ?_
          refine lv_goto (tgt := 75) hx hb dX0_areRight_71 (by decide) ?_
          exact kl_zret hx hb hr hlocks (by decide) hP ⟨rfl, kl_b.t (by show mt_h wd cols n = some 1; rw [show n = p by omega, hh, c67])⟩ dX0_areRight_75
      · have hwp := hw p (by omega)
        have htk := mt_tk_le (wd p)
        refine lv_aload_n hx hb dX0_areRight_10 rfl (lv_at hl 0 rfl) ?_
        refine lv_iload_n hx hb dX0_areRight_11 rfl (lv_at hl 3 rfl) ?_
        refine kl_iald hx hb hK hP h0 (by omega) (by omega) dX0_areRight_12 ?_
        refine kl_top (z := nI (wd p)) rfl ?_
        refine kl_cSi (As := [.int (nI (wd p))]) (rest := []) ⟨hx, hb, hml, hown, hts⟩ (c_X0_taken l G B _ (wd p) (by omega)) (va_cwS 1 hts gX0_areRight_X0_taken rfl rfl rfl (by decide +kernel) ⟨Nat.le_of_ble_eq_true rfl, Nat.le_of_ble_eq_true rfl⟩) hK hP rfl hl.1 rfl (Nat.le_of_ble_eq_true rfl) dX0_areRight_13 ⟨Nat.le_of_ble_eq_true rfl, Nat.le_of_ble_eq_true rfl⟩ (fun r3 w1 H locs q2 hP => ?_)
        obtain ⟨rfl, rfl⟩ := q2
        refine lv_istore (lv' := [(4, .int (nI (mt_tk (wd p)))), (0, .ref (B + k)), (1, .int (nI cols)), (2, .int (nI h)), (3, .int (nI p))]) hx hb dX0_areRight_16 hl (by decide) rfl (fun ls hl => ?_)
        refine lv_aload_n hx hb dX0_areRight_18 rfl (lv_at hl 1 rfl) ?_
        refine lv_iload_n hx hb dX0_areRight_19 rfl (lv_at hl 4 rfl) ?_
        refine kl_iald hx hb hK hP h0 (by omega) (by omega) dX0_areRight_20 ?_
        refine kl_top (z := nI (wd p)) rfl ?_
        refine lv_iconst (v := nI 3) hx hb dX0_areRight_21 (by decide) ?_
        refine kl_gt (tgt := 36) hx hb (by omega) (by omega) dX0_areRight_22 (by decide) (fun c22 => ?_) (fun c22 => ?_)
        · refine lv_iconst (v := nI 0) hx hb dX0_areRight_36 (by decide) ?_
          refine lv_istore (lv' := [(5, .int (nI 0)), (4, .int (nI (mt_tk (wd p)))), (0, .ref (B + k)), (1, .int (nI cols)), (2, .int (nI h)), (3, .int (nI p))]) hx hb dX0_areRight_37 hl (by decide) rfl (fun ls hl => ?_)
          refine lv_iload hx hb dX0_areRight_39 (lv_at hl 0 rfl) ?_
          refine kl_z_ne (tgt := 50) hx hb (by omega) dX0_areRight_41 (by decide) (fun c41 => absurd c41 (by omega)) (fun c41 => ?_)
          refine lv_iload_n hx hb dX0_areRight_44 rfl (lv_at hl 4 rfl) ?_
          refine lv_iload hx hb dX0_areRight_45 (lv_at hl 1 rfl) ?_
          refine kl_ge (tgt := 52) hx hb (by omega) (by omega) dX0_areRight_47 (by decide) (fun c47 => ?_) (fun c47 => ?_)
          · refine lv_iload_n hx hb dX0_areRight_52 rfl (lv_at hl 4 rfl) ?_
            refine lv_iconst (v := nI 1) hx hb dX0_areRight_53 (by decide) ?_
            refine lv_iload hx hb dX0_areRight_54 (lv_at hl 1 rfl) ?_
            refine lv_isub hx hb dX0_areRight_56 ?_
            refine lv_iadd hx hb dX0_areRight_57 ?_
            refine kl_top (z := nI (h + 1 - mt_tk (wd p))) (mt_hs (by omega)) ?_
            refine lv_istore_n (lv' := [(2, .int (nI (h + 1 - mt_tk (wd p)))), (5, .int (nI 0)), (4, .int (nI (mt_tk (wd p)))), (0, .ref (B + k)), (1, .int (nI cols)), (3, .int (nI p))]) hx hb dX0_areRight_58 rfl hl (by decide) rfl (fun ls hl => ?_)
            refine lv_iinc (v := nI (p + 1)) (lv' := [(3, .int (nI (p + 1))), (2, .int (nI (h + 1 - mt_tk (wd p)))), (5, .int (nI 0)), (4, .int (nI (mt_tk (wd p)))), (0, .ref (B + k)), (1, .int (nI cols))]) hx hb dX0_areRight_59 hl (k := 5) rfl (nI_1 _) (by decide) rfl (fun ls hl => ?_)
            refine lv_goto (tgt := 4) hx hb dX0_areRight_62 (by decide) ?_
            exact ih4 (p + 1) (h + 1 - mt_tk (wd p)) (by omega) (by first | omega | grind) (mt_h_step hh (by omega)) _ _ hP ls (lv_sub hl [4, 5, 1, 0] rfl)
          · refine lv_iconst (v := nI 0) hx hb dX0_areRight_50 (by decide) ?_
            exact kl_zret hx hb hr hlocks (by decide) hP ⟨rfl, kl_b.f (fun z => by have z : mt_h wd cols n = some 1 := z; rw [mt_h_none (mt_h_bad hh (by omega)) n (by omega)] at z; cases z)⟩ dX0_areRight_51
        · refine lv_aload_n hx hb dX0_areRight_25 rfl (lv_at hl 1 rfl) ?_
          refine lv_iload_n hx hb dX0_areRight_26 rfl (lv_at hl 4 rfl) ?_
          refine kl_iald hx hb hK hP h0 (by omega) (by omega) dX0_areRight_27 ?_
          refine kl_top (z := nI (wd p)) rfl ?_
          refine lv_iload_n hx hb dX0_areRight_28 rfl (lv_at hl 2 rfl) ?_
          refine kl_lt (tgt := 36) hx hb (by omega) (by omega) dX0_areRight_29 (by decide) (fun c29 => ?_) (fun c29 => ?_)
          · refine lv_iconst (v := nI 0) hx hb dX0_areRight_36 (by decide) ?_
            refine lv_istore (lv' := [(5, .int (nI 0)), (4, .int (nI (mt_tk (wd p)))), (0, .ref (B + k)), (1, .int (nI cols)), (2, .int (nI h)), (3, .int (nI p))]) hx hb dX0_areRight_37 hl (by decide) rfl (fun ls hl => ?_)
            refine lv_iload hx hb dX0_areRight_39 (lv_at hl 0 rfl) ?_
            refine kl_z_ne (tgt := 50) hx hb (by omega) dX0_areRight_41 (by decide) (fun c41 => absurd c41 (by omega)) (fun c41 => ?_)
            refine lv_iload_n hx hb dX0_areRight_44 rfl (lv_at hl 4 rfl) ?_
            refine lv_iload hx hb dX0_areRight_45 (lv_at hl 1 rfl) ?_
            refine kl_ge (tgt := 52) hx hb (by omega) (by omega) dX0_areRight_47 (by decide) (fun c47 => ?_) (fun c47 => ?_)
            · refine lv_iload_n hx hb dX0_areRight_52 rfl (lv_at hl 4 rfl) ?_
              refine lv_iconst (v := nI 1) hx hb dX0_areRight_53 (by decide) ?_
              refine lv_iload hx hb dX0_areRight_54 (lv_at hl 1 rfl) ?_
              refine lv_isub hx hb dX0_areRight_56 ?_
              refine lv_iadd hx hb dX0_areRight_57 ?_
              refine kl_top (z := nI (h + 1 - mt_tk (wd p))) (mt_hs (by omega)) ?_
              refine lv_istore_n (lv' := [(2, .int (nI (h + 1 - mt_tk (wd p)))), (5, .int (nI 0)), (4, .int (nI (mt_tk (wd p)))), (0, .ref (B + k)), (1, .int (nI cols)), (3, .int (nI p))]) hx hb dX0_areRight_58 rfl hl (by decide) rfl (fun ls hl => ?_)
              refine lv_iinc (v := nI (p + 1)) (lv' := [(3, .int (nI (p + 1))), (2, .int (nI (h + 1 - mt_tk (wd p)))), (5, .int (nI 0)), (4, .int (nI (mt_tk (wd p)))), (0, .ref (B + k)), (1, .int (nI cols))]) hx hb dX0_areRight_59 hl (k := 5) rfl (nI_1 _) (by decide) rfl (fun ls hl => ?_)
              refine lv_goto (tgt := 4) hx hb dX0_areRight_62 (by decide) ?_
              exact ih4 (p + 1) (h + 1 - mt_tk (wd p)) (by omega) (by first | omega | grind) (mt_h_step hh (by omega)) _ _ hP ls (lv_sub hl [4, 5, 1, 0] rfl)
            · refine lv_iconst (v := nI 0) hx hb dX0_areRight_50 (by decide) ?_
              exact kl_zret hx hb hr hlocks (by decide) hP ⟨rfl, kl_b.f (fun z => by have z : mt_h wd cols n = some 1 := z; rw [mt_h_none (mt_h_bad hh (by omega)) n (by omega)] at z; cases z)⟩ dX0_areRight_51
          · refine lv_iconst (v := nI 1) hx hb dX0_areRight_32 (by decide) ?_
            refine lv_goto (tgt := 37) hx hb dX0_areRight_33 (by decide) ?_
            refine lv_istore (lv' := [(5, .int (nI 1)), (4, .int (nI (mt_tk (wd p)))), (0, .ref (B + k)), (1, .int (nI cols)), (2, .int (nI h)), (3, .int (nI p))]) hx hb dX0_areRight_37 hl (by decide) rfl (fun ls hl => ?_)
            refine lv_iload hx hb dX0_areRight_39 (lv_at hl 0 rfl) ?_
            refine kl_z_ne (tgt := 50) hx hb (by omega) dX0_areRight_41 (by decide) (fun c41 => ?_) (fun c41 => absurd c41 (by omega))
            refine lv_iconst (v := nI 0) hx hb dX0_areRight_50 (by decide) ?_
            exact kl_zret hx hb hr hlocks (by decide) hP ⟨rfl, kl_b.f (fun z => by have z : mt_h wd cols n = some 1 := z; rw [mt_h_none (mt_h_bad hh (by omega)) n (by omega)] at z; cases z)⟩ dX0_areRight_51
  exact lp4 (n + 1) 0 0 (Nat.lt_succ_of_le (by omega)) (by first | omega | grind) rfl _ _ hP ls (lv_sub hl [2, 3, 1, 0] rfl)

abbrev rm_X0_laid : Room := { frames := 1, cells := 0, slots := 0, locals := 22 }
set_option maxHeartbeats 4000000 in
set_option maxRecDepth 100000 in
theorem c_X0_laid (l : Launch) (G : kl_G) (B : Nat) (w : kl_M) (i a b : Nat) {T C : Nat → Int32} (n p : Nat) (h0 : w i = some (.inr (2, [.ref (B + a), .ref (B + b)]))) (h1 : w a = some (kl_aI G 24 T)) (h2 : w b = some (kl_aI G 96 C)) (hp : p < 24) (hn : n < 2 ^ 30) : Met l yX0_laid wsX0_laid rm_X0_laid (kl_Pc G B w [.int (nI n), .ref (B + i), .int (nI p)]) (kl_Qi G B (fun r w1 => w = w1 ∧ r = mt_lay (fun c => C (4 * p + c)) n)) 0 0 (kl_fr B) := by
  refine Met.ofW (cc := cX0_laid) (maxL := 3) (ret := (some .int)) (by decide) rfl ?_
  intro pg e s m args below meth cd s₁ Bd hml hv
  obtain ⟨rfl, hP0, hK⟩ := hv
  have hx := Bd.exec
  have hb := Bd.bytes
  have hr := Bd.returns
  have hts := atoms_spec (ws := wsX0_laid) Bd.pre
  have hown : s.vm.findClass RX0 = some m.cls := findClass_of_methodNamed Bd.named
  have hlocks := Bd.notSynchronized
  have hP := kl_S.rf hP0
  have hl := lv_entry ([.int (nI n), .ref (B + i), .int (nI p)]) (n := 3) (Nat.le_of_ble_eq_true rfl)
  rw [lg_entry_eq]
  generalize (lg_sl ([.int (nI n), .ref (B + i), .int (nI p)]) ++ List.replicate (3 - (lg_sl ([.int (nI n), .ref (B + i), .int (nI p)])).length) Slot.unset).toArray = ls at hl ⊢
  have hl : lv_has ls 3 [(0, .int (nI n)), (1, .ref (B + i)), (2, .int (nI p))] := hl
  refine lv_iload_n hx hb dX0_laid_0 rfl (lv_at hl 0 rfl) ?_
  refine lv_iconst (v := nI 3) hx hb dX0_laid_1 (by decide) ?_
  refine kl_gt (tgt := 14) hx hb (by omega) (by omega) dX0_laid_2 (by decide) (fun c2 => ?_) (fun c2 => ?_)
  · refine lv_iload_n hx hb dX0_laid_14 rfl (lv_at hl 0 rfl) ?_
    refine lv_sipush (v := nI 200) hx hb dX0_laid_15 (by decide) ?_
    refine lv_isub hx hb dX0_laid_18 ?_
    exact kl_iret hx hb hr hlocks hP ⟨rfl, by unfold mt_lay; rw [if_neg (by omega)]⟩ dX0_laid_19
  · refine lv_aload_n hx hb dX0_laid_5 rfl (lv_at hl 1 rfl) ?_
    refine lv_iload_n hx hb dX0_laid_6 rfl (lv_at hl 2 rfl) ?_
    refine lv_iload_n hx hb dX0_laid_7 rfl (lv_at hl 0 rfl) ?_
    refine kl_cVi (C := RX2) (i := i) (As := [.int (nI p), .int (nI n)]) (rest := []) ⟨hx, hb, hml, hown, hts⟩ (c_X2_at l G B _ i a b p n h0 h1 h2 (by omega) (by omega)) (cwV 2 hts gX0_laid_X2_at rfl rfl rfl (by decide +kernel) ⟨Nat.le_of_ble_eq_true rfl, Nat.le_of_ble_eq_true rfl⟩) hK hP h0 rfl rfl hl.1 rfl (Nat.le_of_ble_eq_true rfl) dX0_laid_8 ⟨Nat.le_of_ble_eq_true rfl, Nat.le_of_ble_eq_true rfl⟩ (fun r3 w1 H locs q2 hP => ?_)
    obtain ⟨rfl, rfl⟩ := q2
    refine kl_top (z := C (4 * p + n)) rfl ?_
    refine lv_goto (tgt := 19) hx hb dX0_laid_11 (by decide) ?_
    exact kl_iret hx hb hr hlocks hP ⟨rfl, by unfold mt_lay; rw [if_pos (by omega)]⟩ dX0_laid_19

abbrev rm_X0_worked : Room := { frames := 0, cells := 0, slots := 0, locals := 0 }
set_option maxHeartbeats 4000000 in
set_option maxRecDepth 100000 in
theorem c_X0_worked (l : Launch) (G : kl_G) (B : Nat) (w : kl_M) (k pi len : Nat) {tb : Int32} {wi : Nat} {g : Nat → Int32} (n h : Nat) (h0 : w k = some (.inr (0, [.int tb, .ref (B + wi), .ref (B + pi)]))) (h1 : w pi = some (kl_aI G len g)) (hn : 10 ≤ n ∧ n ≤ 17) (hh : h < len) (hh2 : n ≠ 17 → h + 1 < len) (hlen : len < 2 ^ 20) : Met l yX0_worked wsX0_worked rm_X0_worked (kl_Pc G B w [.ref (B + k), .int (nI n), .int (nI h)]) (kl_Qi G B (fun r w1 => w = w1 ∧ r = mt_op n (g h) (if n = 17 then 0 else g (h + 1)))) 0 0 (kl_fr B) := by
  refine Met.ofW (cc := cX0_worked) (maxL := 5) (ret := (some .int)) (by decide) rfl ?_
  intro pg e s m args below meth cd s₁ Bd hml hv
  obtain ⟨rfl, hP0, hK⟩ := hv
  have hx := Bd.exec
  have hb := Bd.bytes
  have hr := Bd.returns
  have hts := atoms_spec (ws := wsX0_worked) Bd.pre
  have hown : s.vm.findClass RX0 = some m.cls := findClass_of_methodNamed Bd.named
  have hlocks := Bd.notSynchronized
  have hinX0 : ∀ w ∈ u_ws RX0 TX0 3, w ∈ wsX0_worked := by decide +kernel
  have hP := kl_S.rf hP0
  have hl := lv_entry ([.ref (B + k), .int (nI n), .int (nI h)]) (n := 5) (Nat.le_of_ble_eq_true rfl)
  rw [lg_entry_eq]
  generalize (lg_sl ([.ref (B + k), .int (nI n), .int (nI h)]) ++ List.replicate (5 - (lg_sl ([.ref (B + k), .int (nI n), .int (nI h)])).length) Slot.unset).toArray = ls at hl ⊢
  have hl : lv_has ls 5 [(0, .ref (B + k)), (1, .int (nI n)), (2, .int (nI h))] := hl
  refine lv_aload_n hx hb dX0_worked_0 rfl (lv_at hl 0 rfl) ?_
  refine kl_get (C := RX0) (T := TX0) (N := 3) (ci := 0) hx hb hts hinX0 hown hK hP h0 rfl 2 (by decide) (hts (.fieldLink RX0 19 "KinLedger$Check" "pile" "[I") (by decide +kernel)) (fun _ h9 => h9) rfl dX0_worked_1 ?_
  refine lv_iload_n hx hb dX0_worked_4 rfl (lv_at hl 2 rfl) ?_
  refine kl_iald hx hb hK hP h1 (by omega) (by omega) dX0_worked_5 ?_
  refine lv_istore_n (lv' := [(3, .int (g h)), (0, .ref (B + k)), (1, .int (nI n)), (2, .int (nI h))]) hx hb dX0_worked_6 rfl hl (by decide) rfl (fun ls hl => ?_)
  refine lv_iload_n hx hb dX0_worked_7 rfl (lv_at hl 2 rfl) ?_
  refine lv_bipush (v := nI 17) hx hb dX0_worked_8 (by decide) ?_
  refine kl_ne (tgt := 17) hx hb (by omega) (by omega) dX0_worked_10 (by decide) (fun c10 => ?_) (fun c10 => ?_)
  · refine lv_aload_n hx hb dX0_worked_17 rfl (lv_at hl 1 rfl) ?_
    refine kl_get (C := RX0) (T := TX0) (N := 3) (ci := 0) hx hb hts hinX0 hown hK hP h0 rfl 2 (by decide) (hts (.fieldLink RX0 19 "KinLedger$Check" "pile" "[I") (by decide +kernel)) (fun _ h9 => h9) rfl dX0_worked_18 ?_
    refine lv_iload_n hx hb dX0_worked_21 rfl (lv_at hl 3 rfl) ?_
    refine lv_iconst (v := nI 1) hx hb dX0_worked_22 (by decide) ?_
    refine lv_iadd hx hb dX0_worked_23 ?_
    refine kl_top (z := nI (h + 1)) (by first | exact nI_add _ _ | (rw [nI_add]; first | rfl | (congr 1; omega))) ?_
    have hh3 := hh2 c10
    refine kl_iald hx hb hK hP h1 (by omega) (by omega) dX0_worked_24 ?_
    refine lv_istore (lv' := [(4, .int (g (h + 1))), (3, .int (g h)), (0, .ref (B + k)), (1, .int (nI n)), (2, .int (nI h))]) hx hb dX0_worked_25 hl (by decide) rfl (fun ls hl => ?_)
    refine lv_iload_n hx hb dX0_worked_27 rfl (lv_at hl 3 rfl) ?_
    rcases (show n = 10 ∨ n = 11 ∨ n = 12 ∨ n = 13 ∨ n = 14 ∨ n = 15 ∨ n = 16 by omega) with rfl | rfl | rfl | rfl | rfl | rfl | rfl
    · refine lv_tableIn (off := 44) (tgt := 72) hx hb dX0_worked_28 (by decide) (by decide) rfl (by decide) ?_
      refine lv_iload_n hx hb dX0_worked_72 rfl (lv_at hl 1 rfl) ?_
      refine lv_iload hx hb dX0_worked_73 (lv_at hl 0 rfl) ?_
      refine lv_iadd hx hb dX0_worked_75 ?_
      exact kl_iret hx hb hr hlocks hP ⟨rfl, rfl⟩ dX0_worked_76
    · refine lv_tableIn (off := 49) (tgt := 77) hx hb dX0_worked_28 (by decide) (by decide) rfl (by decide) ?_
      refine lv_iload_n hx hb dX0_worked_77 rfl (lv_at hl 1 rfl) ?_
      refine lv_iload hx hb dX0_worked_78 (lv_at hl 0 rfl) ?_
      refine lv_isub hx hb dX0_worked_80 ?_
      exact kl_iret hx hb hr hlocks hP ⟨rfl, rfl⟩ dX0_worked_81
    · refine lv_tableIn (off := 54) (tgt := 82) hx hb dX0_worked_28 (by decide) (by decide) rfl (by decide) ?_
      refine lv_iload_n hx hb dX0_worked_82 rfl (lv_at hl 1 rfl) ?_
      refine lv_iload hx hb dX0_worked_83 (lv_at hl 0 rfl) ?_
      refine lv_imul hx hb dX0_worked_85 ?_
      exact kl_iret hx hb hr hlocks hP ⟨rfl, rfl⟩ dX0_worked_86
    · refine lv_tableIn (off := 59) (tgt := 87) hx hb dX0_worked_28 (by decide) (by decide) rfl (by decide) ?_
      refine lv_iload_n hx hb dX0_worked_87 rfl (lv_at hl 1 rfl) ?_
      refine lv_iload hx hb dX0_worked_88 (lv_at hl 0 rfl) ?_
      refine lv_icmp_ge (tgt := 97) hx hb dX0_worked_90 (by decide) (fun c90 => ?_) (fun c90 => ?_)
      · refine lv_iconst (v := nI 0) hx hb dX0_worked_97 (by decide) ?_
        exact kl_iret hx hb hr hlocks hP ⟨rfl, by show nI 0 = (if g h < g (h + 1) then nI 1 else nI 0); rw [if_neg ((fun z => absurd c90 (Int32.not_le.mpr z)))]⟩ dX0_worked_98
      · refine lv_iconst (v := nI 1) hx hb dX0_worked_93 (by decide) ?_
        refine lv_goto (tgt := 98) hx hb dX0_worked_94 (by decide) ?_
        exact kl_iret hx hb hr hlocks hP ⟨rfl, by show nI 1 = (if g h < g (h + 1) then nI 1 else nI 0); rw [if_pos (Int32.not_le.mp c90)]⟩ dX0_worked_98
    · refine lv_tableIn (off := 71) (tgt := 99) hx hb dX0_worked_28 (by decide) (by decide) rfl (by decide) ?_
      refine lv_iload_n hx hb dX0_worked_99 rfl (lv_at hl 1 rfl) ?_
      refine lv_iload hx hb dX0_worked_100 (lv_at hl 0 rfl) ?_
      refine lv_icmp_ne (tgt := 109) hx hb dX0_worked_102 (by decide) (fun c102 => ?_) (fun c102 => ?_)
      · refine lv_iconst (v := nI 0) hx hb dX0_worked_109 (by decide) ?_
        exact kl_iret hx hb hr hlocks hP ⟨rfl, by show nI 0 = (if g h = g (h + 1) then nI 1 else nI 0); rw [if_neg (c102)]⟩ dX0_worked_110
      · refine lv_iconst (v := nI 1) hx hb dX0_worked_105 (by decide) ?_
        refine lv_goto (tgt := 110) hx hb dX0_worked_106 (by decide) ?_
        exact kl_iret hx hb hr hlocks hP ⟨rfl, by show nI 1 = (if g h = g (h + 1) then nI 1 else nI 0); rw [if_pos (c102)]⟩ dX0_worked_110
    · refine lv_tableIn (off := 83) (tgt := 111) hx hb dX0_worked_28 (by decide) (by decide) rfl (by decide) ?_
      refine lv_iload_n hx hb dX0_worked_111 rfl (lv_at hl 1 rfl) ?_
      refine lv_if_eq (tgt := 124) hx hb dX0_worked_112 (by decide) (fun c112 => ?_) (fun c112 => ?_)
      · refine lv_iconst (v := nI 0) hx hb dX0_worked_124 (by decide) ?_
        exact kl_iret hx hb hr hlocks hP ⟨rfl, by show nI 0 = (if g h ≠ 0 ∧ g (h + 1) ≠ 0 then nI 1 else nI 0); rw [if_neg ((fun z => z.1 c112))]⟩ dX0_worked_125
      · refine lv_iload hx hb dX0_worked_115 (lv_at hl 0 rfl) ?_
        refine lv_if_eq (tgt := 124) hx hb dX0_worked_117 (by decide) (fun c117 => ?_) (fun c117 => ?_)
        · refine lv_iconst (v := nI 0) hx hb dX0_worked_124 (by decide) ?_
          exact kl_iret hx hb hr hlocks hP ⟨rfl, by show nI 0 = (if g h ≠ 0 ∧ g (h + 1) ≠ 0 then nI 1 else nI 0); rw [if_neg ((fun z => z.2 c117))]⟩ dX0_worked_125
        · refine lv_iconst (v := nI 1) hx hb dX0_worked_120 (by decide) ?_
          refine lv_goto (tgt := 125) hx hb dX0_worked_121 (by decide) ?_
          exact kl_iret hx hb hr hlocks hP ⟨rfl, by show nI 1 = (if g h ≠ 0 ∧ g (h + 1) ≠ 0 then nI 1 else nI 0); rw [if_pos (⟨c112, c117⟩)]⟩ dX0_worked_125
    · refine lv_tableIn (off := 98) (tgt := 126) hx hb dX0_worked_28 (by decide) (by decide) rfl (by decide) ?_
      refine lv_iload_n hx hb dX0_worked_126 rfl (lv_at hl 1 rfl) ?_
      refine lv_if_ne (tgt := 135) hx hb dX0_worked_127 (by decide) (fun c127 => ?_) (fun c127 => ?_)
      · refine lv_iconst (v := nI 1) hx hb dX0_worked_135 (by decide) ?_
        refine lv_goto (tgt := 140) hx hb dX0_worked_136 (by decide) ?_
        exact kl_iret hx hb hr hlocks hP ⟨rfl, by show nI 1 = (if g h ≠ 0 ∨ g (h + 1) ≠ 0 then nI 1 else nI 0); rw [if_pos (Or.inl c127)]⟩ dX0_worked_140
      · refine lv_iload hx hb dX0_worked_130 (lv_at hl 0 rfl) ?_
        refine lv_if_eq (tgt := 139) hx hb dX0_worked_132 (by decide) (fun c132 => ?_) (fun c132 => ?_)
        · refine lv_iconst (v := nI 0) hx hb dX0_worked_139 (by decide) ?_
          exact kl_iret hx hb hr hlocks hP ⟨rfl, by show nI 0 = (if g h ≠ 0 ∨ g (h + 1) ≠ 0 then nI 1 else nI 0); rw [if_neg ((fun z => z.elim (fun z => z c127) (fun z => z c132)))]⟩ dX0_worked_140
        · refine lv_iconst (v := nI 1) hx hb dX0_worked_135 (by decide) ?_
          refine lv_goto (tgt := 140) hx hb dX0_worked_136 (by decide) ?_
          exact kl_iret hx hb hr hlocks hP ⟨rfl, by show nI 1 = (if g h ≠ 0 ∨ g (h + 1) ≠ 0 then nI 1 else nI 0); rw [if_pos (Or.inr c132)]⟩ dX0_worked_140
  · refine lv_iconst (v := nI 0) hx hb dX0_worked_13 (by decide) ?_
    refine lv_goto (tgt := 25) hx hb dX0_worked_14 (by decide) ?_
    refine lv_istore (lv' := [(4, .int (nI 0)), (3, .int (g h)), (0, .ref (B + k)), (1, .int (nI n)), (2, .int (nI h))]) hx hb dX0_worked_25 hl (by decide) rfl (fun ls hl => ?_)
    refine lv_iload_n hx hb dX0_worked_27 rfl (lv_at hl 3 rfl) ?_
    subst c10
    refine lv_tableOut (tgt := 141) hx hb dX0_worked_28 (by decide) (by decide) ?_
    refine lv_iload_n hx hb dX0_worked_141 rfl (lv_at hl 1 rfl) ?_
    refine lv_if_ne (tgt := 149) hx hb dX0_worked_142 (by decide) (fun c142 => ?_) (fun c142 => ?_)
    · refine lv_iconst (v := nI 0) hx hb dX0_worked_149 (by decide) ?_
      exact kl_iret hx hb hr hlocks hP ⟨rfl, by show nI 0 = (if g h = 0 then nI 1 else nI 0); rw [if_neg (c142)]⟩ dX0_worked_150
    · refine lv_iconst (v := nI 1) hx hb dX0_worked_145 (by decide) ?_
      refine lv_goto (tgt := 150) hx hb dX0_worked_146 (by decide) ?_
      exact kl_iret hx hb hr hlocks hP ⟨rfl, by show nI 1 = (if g h = 0 then nI 1 else nI 0); rw [if_pos (c142)]⟩ dX0_worked_150
end
