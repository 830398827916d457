section
-- ===== PART A: goes FIRST, ahead of the names: the tables' words, and 'selects' of the private methods out of them =====
/-- a private method of a class that the tables say can be made, by its rows of tables_1 -/
def lw_okq (q : MethodName × Nat) : Prop := (q.1.cls ≠ "java/lang/invoke/MethodHandle" ∧ q.1.cls ≠ "java/lang/invoke/VarHandle") ∧ Cond.instantiable q.1.cls q.2 ∈ tables_1 ∧ Cond.privateMethod q.1 ∈ tables_1 ∧ Cond.instanceMethod q.1 ∈ tables_1
theorem lw_p0 : lw_okq (⟨"PromiseWire", "addThing", "(IIILPromiseWire$Thing;I)I"⟩, 10) := ⟨⟨by decide +kernel, by decide +kernel⟩, List.mem_of_getElem? (i := 11) (by decide +kernel), List.mem_of_getElem? (i := 109) (by decide +kernel), List.mem_of_getElem? (i := 110) (by decide +kernel)⟩
theorem lw_p1 : lw_okq (⟨"PromiseWire", "thingAt", "(I)LPromiseWire$Thing;"⟩, 10) := ⟨⟨by decide +kernel, by decide +kernel⟩, List.mem_of_getElem? (i := 11) (by decide +kernel), List.mem_of_getElem? (i := 161) (by decide +kernel), List.mem_of_getElem? (i := 162) (by decide +kernel)⟩
theorem lw_p2 : lw_okq (⟨"PromiseWire", "answerHeld", "(LPromiseWire$Thing;I)I"⟩, 10) := ⟨⟨by decide +kernel, by decide +kernel⟩, List.mem_of_getElem? (i := 11) (by decide +kernel), List.mem_of_getElem? (i := 180) (by decide +kernel), List.mem_of_getElem? (i := 181) (by decide +kernel)⟩
theorem lw_p3 : lw_okq (⟨"PromiseWire", "settle", "(LPromiseWire$Message;I)V"⟩, 10) := ⟨⟨by decide +kernel, by decide +kernel⟩, List.mem_of_getElem? (i := 11) (by decide +kernel), List.mem_of_getElem? (i := 192) (by decide +kernel), List.mem_of_getElem? (i := 193) (by decide +kernel)⟩
theorem lw_p4 : lw_okq (⟨"PromiseWire", "post", "(LPromiseWire$Message;II)Z"⟩, 10) := ⟨⟨by decide +kernel, by decide +kernel⟩, List.mem_of_getElem? (i := 11) (by decide +kernel), List.mem_of_getElem? (i := 200) (by decide +kernel), List.mem_of_getElem? (i := 201) (by decide +kernel)⟩
theorem lw_p5 : lw_okq (⟨"PromiseWire", "wireAt", "(II)LPromiseWire$Wire;"⟩, 10) := ⟨⟨by decide +kernel, by decide +kernel⟩, List.mem_of_getElem? (i := 11) (by decide +kernel), List.mem_of_getElem? (i := 204) (by decide +kernel), List.mem_of_getElem? (i := 205) (by decide +kernel)⟩
theorem lw_p6 : lw_okq (⟨"PromiseWire", "doAll", "()V"⟩, 10) := ⟨⟨by decide +kernel, by decide +kernel⟩, List.mem_of_getElem? (i := 11) (by decide +kernel), List.mem_of_getElem? (i := 213) (by decide +kernel), List.mem_of_getElem? (i := 214) (by decide +kernel)⟩
theorem lw_p7 : lw_okq (⟨"PromiseWire", "fulfil", "(LPromiseWire$Promise;LPromiseWire$Message;)V"⟩, 10) := ⟨⟨by decide +kernel, by decide +kernel⟩, List.mem_of_getElem? (i := 11) (by decide +kernel), List.mem_of_getElem? (i := 217) (by decide +kernel), List.mem_of_getElem? (i := 218) (by decide +kernel)⟩
theorem lw_p8 : lw_okq (⟨"PromiseWire", "sendOn", "(LPromiseWire$Message;LPromiseWire$Promise;)V"⟩, 10) := ⟨⟨by decide +kernel, by decide +kernel⟩, List.mem_of_getElem? (i := 11) (by decide +kernel), List.mem_of_getElem? (i := 221) (by decide +kernel), List.mem_of_getElem? (i := 222) (by decide +kernel)⟩
theorem lw_p9 : lw_okq (⟨"PromiseWire", "send", "(LPromiseWire$Message;I)V"⟩, 10) := ⟨⟨by decide +kernel, by decide +kernel⟩, List.mem_of_getElem? (i := 11) (by decide +kernel), List.mem_of_getElem? (i := 225) (by decide +kernel), List.mem_of_getElem? (i := 226) (by decide +kernel)⟩
theorem lw_p10 : lw_okq (⟨"PromiseWire", "tellAsker", "(LPromiseWire$Promise;LPromiseWire$Message;)V"⟩, 10) := ⟨⟨by decide +kernel, by decide +kernel⟩, List.mem_of_getElem? (i := 11) (by decide +kernel), List.mem_of_getElem? (i := 233) (by decide +kernel), List.mem_of_getElem? (i := 234) (by decide +kernel)⟩
theorem lw_p11 : lw_okq (⟨"PromiseWire", "postWhens", "(LPromiseWire$Promise;I)V"⟩, 10) := ⟨⟨by decide +kernel, by decide +kernel⟩, List.mem_of_getElem? (i := 11) (by decide +kernel), List.mem_of_getElem? (i := 237) (by decide +kernel), List.mem_of_getElem? (i := 238) (by decide +kernel)⟩
theorem lw_p12 : lw_okq (⟨"PromiseWire", "postWhen", "(LPromiseWire$When;)V"⟩, 10) := ⟨⟨by decide +kernel, by decide +kernel⟩, List.mem_of_getElem? (i := 11) (by decide +kernel), List.mem_of_getElem? (i := 241) (by decide +kernel), List.mem_of_getElem? (i := 242) (by decide +kernel)⟩
theorem lw_p13 : lw_okq (⟨"PromiseWire", "promiseAt", "(I)LPromiseWire$Promise;"⟩, 10) := ⟨⟨by decide +kernel, by decide +kernel⟩, List.mem_of_getElem? (i := 11) (by decide +kernel), List.mem_of_getElem? (i := 319) (by decide +kernel), List.mem_of_getElem? (i := 320) (by decide +kernel)⟩
theorem lw_p14 : lw_okq (⟨"PromiseWire", "deliverFirst", "(LPromiseWire$Wire;)I"⟩, 10) := ⟨⟨by decide +kernel, by decide +kernel⟩, List.mem_of_getElem? (i := 11) (by decide +kernel), List.mem_of_getElem? (i := 406) (by decide +kernel), List.mem_of_getElem? (i := 407) (by decide +kernel)⟩
theorem lw_p15 : lw_okq (⟨"PromiseWire", "receiveAnswer", "(LPromiseWire$Message;I)V"⟩, 10) := ⟨⟨by decide +kernel, by decide +kernel⟩, List.mem_of_getElem? (i := 11) (by decide +kernel), List.mem_of_getElem? (i := 414) (by decide +kernel), List.mem_of_getElem? (i := 415) (by decide +kernel)⟩
def lw_privs_1 : List (MethodName × Nat) := [(⟨"PromiseWire", "addThing", "(IIILPromiseWire$Thing;I)I"⟩, 10), (⟨"PromiseWire", "thingAt", "(I)LPromiseWire$Thing;"⟩, 10), (⟨"PromiseWire", "answerHeld", "(LPromiseWire$Thing;I)I"⟩, 10), (⟨"PromiseWire", "settle", "(LPromiseWire$Message;I)V"⟩, 10), (⟨"PromiseWire", "post", "(LPromiseWire$Message;II)Z"⟩, 10), (⟨"PromiseWire", "wireAt", "(II)LPromiseWire$Wire;"⟩, 10), (⟨"PromiseWire", "doAll", "()V"⟩, 10), (⟨"PromiseWire", "fulfil", "(LPromiseWire$Promise;LPromiseWire$Message;)V"⟩, 10), (⟨"PromiseWire", "sendOn", "(LPromiseWire$Message;LPromiseWire$Promise;)V"⟩, 10), (⟨"PromiseWire", "send", "(LPromiseWire$Message;I)V"⟩, 10), (⟨"PromiseWire", "tellAsker", "(LPromiseWire$Promise;LPromiseWire$Message;)V"⟩, 10), (⟨"PromiseWire", "postWhens", "(LPromiseWire$Promise;I)V"⟩, 10), (⟨"PromiseWire", "postWhen", "(LPromiseWire$When;)V"⟩, 10), (⟨"PromiseWire", "promiseAt", "(I)LPromiseWire$Promise;"⟩, 10), (⟨"PromiseWire", "deliverFirst", "(LPromiseWire$Wire;)I"⟩, 10), (⟨"PromiseWire", "receiveAnswer", "(LPromiseWire$Message;I)V"⟩, 10)]
theorem lw_r1 : ∀ q ∈ lw_privs_1, lw_okq q := List.forall_mem_cons.mpr ⟨lw_p0, List.forall_mem_cons.mpr ⟨lw_p1, List.forall_mem_cons.mpr ⟨lw_p2, List.forall_mem_cons.mpr ⟨lw_p3, List.forall_mem_cons.mpr ⟨lw_p4, List.forall_mem_cons.mpr ⟨lw_p5, List.forall_mem_cons.mpr ⟨lw_p6, List.forall_mem_cons.mpr ⟨lw_p7, List.forall_mem_cons.mpr ⟨lw_p8, List.forall_mem_cons.mpr ⟨lw_p9, List.forall_mem_cons.mpr ⟨lw_p10, List.forall_mem_cons.mpr ⟨lw_p11, List.forall_mem_cons.mpr ⟨lw_p12, List.forall_mem_cons.mpr ⟨lw_p13, List.forall_mem_cons.mpr ⟨lw_p14, List.forall_mem_cons.mpr ⟨lw_p15, fun _ h => absurd h List.not_mem_nil⟩⟩⟩⟩⟩⟩⟩⟩⟩⟩⟩⟩⟩⟩⟩⟩
theorem lw_p16 : lw_okq (⟨"PromiseWire", "reachPromise", "(LPromiseWire$Message;LPromiseWire$Promise;)V"⟩, 10) := ⟨⟨by decide +kernel, by decide +kernel⟩, List.mem_of_getElem? (i := 11) (by decide +kernel), List.mem_of_getElem? (i := 418) (by decide +kernel), List.mem_of_getElem? (i := 419) (by decide +kernel)⟩
theorem lw_p17 : lw_okq (⟨"PromiseWire", "takeTurn", "(LPromiseWire$Thing;LPromiseWire$Message;)V"⟩, 10) := ⟨⟨by decide +kernel, by decide +kernel⟩, List.mem_of_getElem? (i := 11) (by decide +kernel), List.mem_of_getElem? (i := 422) (by decide +kernel), List.mem_of_getElem? (i := 423) (by decide +kernel)⟩
theorem lw_p18 : lw_okq (⟨"PromiseWire", "hear", "(LPromiseWire$Thing;LPromiseWire$Message;)I"⟩, 10) := ⟨⟨by decide +kernel, by decide +kernel⟩, List.mem_of_getElem? (i := 11) (by decide +kernel), List.mem_of_getElem? (i := 426) (by decide +kernel), List.mem_of_getElem? (i := 427) (by decide +kernel)⟩
theorem lw_p19 : lw_okq (⟨"PromiseWire", "hearAsPurse", "(LPromiseWire$Thing;LPromiseWire$Message;)I"⟩, 10) := ⟨⟨by decide +kernel, by decide +kernel⟩, List.mem_of_getElem? (i := 11) (by decide +kernel), List.mem_of_getElem? (i := 430) (by decide +kernel), List.mem_of_getElem? (i := 431) (by decide +kernel)⟩
theorem lw_p20 : lw_okq (⟨"PromiseWire", "hearAsCell", "(LPromiseWire$Thing;LPromiseWire$Message;)I"⟩, 10) := ⟨⟨by decide +kernel, by decide +kernel⟩, List.mem_of_getElem? (i := 11) (by decide +kernel), List.mem_of_getElem? (i := 435) (by decide +kernel), List.mem_of_getElem? (i := 436) (by decide +kernel)⟩
theorem lw_p21 : lw_okq (⟨"PromiseWire", "hearAsMaker", "(LPromiseWire$Thing;LPromiseWire$Message;)I"⟩, 10) := ⟨⟨by decide +kernel, by decide +kernel⟩, List.mem_of_getElem? (i := 11) (by decide +kernel), List.mem_of_getElem? (i := 439) (by decide +kernel), List.mem_of_getElem? (i := 440) (by decide +kernel)⟩
theorem lw_p22 : lw_okq (⟨"PromiseWire", "hearAsGuard", "(LPromiseWire$Thing;LPromiseWire$Message;)I"⟩, 10) := ⟨⟨by decide +kernel, by decide +kernel⟩, List.mem_of_getElem? (i := 11) (by decide +kernel), List.mem_of_getElem? (i := 444) (by decide +kernel), List.mem_of_getElem? (i := 445) (by decide +kernel)⟩
theorem lw_p23 : lw_okq (⟨"PromiseWire", "hearAsSwitch", "(LPromiseWire$Thing;LPromiseWire$Message;)I"⟩, 10) := ⟨⟨by decide +kernel, by decide +kernel⟩, List.mem_of_getElem? (i := 11) (by decide +kernel), List.mem_of_getElem? (i := 449) (by decide +kernel), List.mem_of_getElem? (i := 450) (by decide +kernel)⟩
theorem lw_p24 : lw_okq (⟨"PromiseWire", "hearAsJoiner", "(LPromiseWire$Thing;LPromiseWire$Message;)I"⟩, 10) := ⟨⟨by decide +kernel, by decide +kernel⟩, List.mem_of_getElem? (i := 11) (by decide +kernel), List.mem_of_getElem? (i := 454) (by decide +kernel), List.mem_of_getElem? (i := 455) (by decide +kernel)⟩
theorem lw_p25 : lw_okq (⟨"PromiseWire", "hearAsSleeper", "(LPromiseWire$Thing;LPromiseWire$Message;)I"⟩, 10) := ⟨⟨by decide +kernel, by decide +kernel⟩, List.mem_of_getElem? (i := 11) (by decide +kernel), List.mem_of_getElem? (i := 459) (by decide +kernel), List.mem_of_getElem? (i := 460) (by decide +kernel)⟩
theorem lw_p26 : lw_okq (⟨"PromiseWire", "hold", "(LPromiseWire$Thing;LPromiseWire$Message;)V"⟩, 10) := ⟨⟨by decide +kernel, by decide +kernel⟩, List.mem_of_getElem? (i := 11) (by decide +kernel), List.mem_of_getElem? (i := 464) (by decide +kernel), List.mem_of_getElem? (i := 465) (by decide +kernel)⟩
theorem lw_p27 : lw_okq (⟨"PromiseWire", "firstWireWithLetters", "()LPromiseWire$Wire;"⟩, 10) := ⟨⟨by decide +kernel, by decide +kernel⟩, List.mem_of_getElem? (i := 11) (by decide +kernel), List.mem_of_getElem? (i := 476) (by decide +kernel), List.mem_of_getElem? (i := 477) (by decide +kernel)⟩
theorem lw_p28 : lw_okq (⟨"PromiseWire", "loseFirst", "(LPromiseWire$Wire;)V"⟩, 10) := ⟨⟨by decide +kernel, by decide +kernel⟩, List.mem_of_getElem? (i := 11) (by decide +kernel), List.mem_of_getElem? (i := 490) (by decide +kernel), List.mem_of_getElem? (i := 491) (by decide +kernel)⟩
theorem lw_p29 : lw_okq (⟨"PromiseWire", "openAtHome", "()I"⟩, 10) := ⟨⟨by decide +kernel, by decide +kernel⟩, List.mem_of_getElem? (i := 11) (by decide +kernel), List.mem_of_getElem? (i := 521) (by decide +kernel), List.mem_of_getElem? (i := 522) (by decide +kernel)⟩
theorem lw_p30 : lw_okq (⟨"PromiseWire", "lettersUnderWay", "()I"⟩, 10) := ⟨⟨by decide +kernel, by decide +kernel⟩, List.mem_of_getElem? (i := 11) (by decide +kernel), List.mem_of_getElem? (i := 525) (by decide +kernel), List.mem_of_getElem? (i := 526) (by decide +kernel)⟩
theorem lw_p31 : lw_okq (⟨"PromiseWire", "wiresCut", "()I"⟩, 10) := ⟨⟨by decide +kernel, by decide +kernel⟩, List.mem_of_getElem? (i := 11) (by decide +kernel), List.mem_of_getElem? (i := 529) (by decide +kernel), List.mem_of_getElem? (i := 530) (by decide +kernel)⟩
def lw_privs_2 : List (MethodName × Nat) := [(⟨"PromiseWire", "reachPromise", "(LPromiseWire$Message;LPromiseWire$Promise;)V"⟩, 10), (⟨"PromiseWire", "takeTurn", "(LPromiseWire$Thing;LPromiseWire$Message;)V"⟩, 10), (⟨"PromiseWire", "hear", "(LPromiseWire$Thing;LPromiseWire$Message;)I"⟩, 10), (⟨"PromiseWire", "hearAsPurse", "(LPromiseWire$Thing;LPromiseWire$Message;)I"⟩, 10), (⟨"PromiseWire", "hearAsCell", "(LPromiseWire$Thing;LPromiseWire$Message;)I"⟩, 10), (⟨"PromiseWire", "hearAsMaker", "(LPromiseWire$Thing;LPromiseWire$Message;)I"⟩, 10), (⟨"PromiseWire", "hearAsGuard", "(LPromiseWire$Thing;LPromiseWire$Message;)I"⟩, 10), (⟨"PromiseWire", "hearAsSwitch", "(LPromiseWire$Thing;LPromiseWire$Message;)I"⟩, 10), (⟨"PromiseWire", "hearAsJoiner", "(LPromiseWire$Thing;LPromiseWire$Message;)I"⟩, 10), (⟨"PromiseWire", "hearAsSleeper", "(LPromiseWire$Thing;LPromiseWire$Message;)I"⟩, 10), (⟨"PromiseWire", "hold", "(LPromiseWire$Thing;LPromiseWire$Message;)V"⟩, 10), (⟨"PromiseWire", "firstWireWithLetters", "()LPromiseWire$Wire;"⟩, 10), (⟨"PromiseWire", "loseFirst", "(LPromiseWire$Wire;)V"⟩, 10), (⟨"PromiseWire", "openAtHome", "()I"⟩, 10), (⟨"PromiseWire", "lettersUnderWay", "()I"⟩, 10), (⟨"PromiseWire", "wiresCut", "()I"⟩, 10)]
theorem lw_r2 : ∀ q ∈ lw_privs_2, lw_okq q := List.forall_mem_cons.mpr ⟨lw_p16, List.forall_mem_cons.mpr ⟨lw_p17, List.forall_mem_cons.mpr ⟨lw_p18, List.forall_mem_cons.mpr ⟨lw_p19, List.forall_mem_cons.mpr ⟨lw_p20, List.forall_mem_cons.mpr ⟨lw_p21, List.forall_mem_cons.mpr ⟨lw_p22, List.forall_mem_cons.mpr ⟨lw_p23, List.forall_mem_cons.mpr ⟨lw_p24, List.forall_mem_cons.mpr ⟨lw_p25, List.forall_mem_cons.mpr ⟨lw_p26, List.forall_mem_cons.mpr ⟨lw_p27, List.forall_mem_cons.mpr ⟨lw_p28, List.forall_mem_cons.mpr ⟨lw_p29, List.forall_mem_cons.mpr ⟨lw_p30, List.forall_mem_cons.mpr ⟨lw_p31, fun _ h => absurd h List.not_mem_nil⟩⟩⟩⟩⟩⟩⟩⟩⟩⟩⟩⟩⟩⟩⟩⟩
theorem lw_p32 : lw_okq (⟨"PromiseWire", "messagesHeld", "()I"⟩, 10) := ⟨⟨by decide +kernel, by decide +kernel⟩, List.mem_of_getElem? (i := 11) (by decide +kernel), List.mem_of_getElem? (i := 533) (by decide +kernel), List.mem_of_getElem? (i := 534) (by decide +kernel)⟩
theorem lw_p33 : lw_okq (⟨"PromiseWire", "messagesWaiting", "()I"⟩, 10) := ⟨⟨by decide +kernel, by decide +kernel⟩, List.mem_of_getElem? (i := 11) (by decide +kernel), List.mem_of_getElem? (i := 537) (by decide +kernel), List.mem_of_getElem? (i := 538) (by decide +kernel)⟩
theorem lw_p34 : lw_okq (⟨"PromiseWireModel", "comes", "(IIIII)I"⟩, 59) := ⟨⟨by decide +kernel, by decide +kernel⟩, List.mem_of_getElem? (i := 545) (by decide +kernel), List.mem_of_getElem? (i := 738) (by decide +kernel), List.mem_of_getElem? (i := 739) (by decide +kernel)⟩
theorem lw_p35 : lw_okq (⟨"PromiseWireModel", "isThing", "(I)Z"⟩, 59) := ⟨⟨by decide +kernel, by decide +kernel⟩, List.mem_of_getElem? (i := 545) (by decide +kernel), List.mem_of_getElem? (i := 746) (by decide +kernel), List.mem_of_getElem? (i := 747) (by decide +kernel)⟩
theorem lw_p36 : lw_okq (⟨"PromiseWireModel", "answersAll", "(II)I"⟩, 59) := ⟨⟨by decide +kernel, by decide +kernel⟩, List.mem_of_getElem? (i := 545) (by decide +kernel), List.mem_of_getElem? (i := 766) (by decide +kernel), List.mem_of_getElem? (i := 767) (by decide +kernel)⟩
theorem lw_p37 : lw_okq (⟨"PromiseWireModel", "firstKept", "(II)I"⟩, 59) := ⟨⟨by decide +kernel, by decide +kernel⟩, List.mem_of_getElem? (i := 545) (by decide +kernel), List.mem_of_getElem? (i := 770) (by decide +kernel), List.mem_of_getElem? (i := 771) (by decide +kernel)⟩
theorem lw_p38 : lw_okq (⟨"PromiseWireModel", "settles", "(IIII)V"⟩, 59) := ⟨⟨by decide +kernel, by decide +kernel⟩, List.mem_of_getElem? (i := 545) (by decide +kernel), List.mem_of_getElem? (i := 774) (by decide +kernel), List.mem_of_getElem? (i := 775) (by decide +kernel)⟩
theorem lw_p39 : lw_okq (⟨"PromiseWireModel", "isToBeDone", "(III)V"⟩, 59) := ⟨⟨by decide +kernel, by decide +kernel⟩, List.mem_of_getElem? (i := 545) (by decide +kernel), List.mem_of_getElem? (i := 778) (by decide +kernel), List.mem_of_getElem? (i := 779) (by decide +kernel)⟩
theorem lw_p40 : lw_okq (⟨"PromiseWireModel", "sendsAnswer", "(IIIIZ)V"⟩, 59) := ⟨⟨by decide +kernel, by decide +kernel⟩, List.mem_of_getElem? (i := 545) (by decide +kernel), List.mem_of_getElem? (i := 782) (by decide +kernel), List.mem_of_getElem? (i := 783) (by decide +kernel)⟩
theorem lw_p41 : lw_okq (⟨"PromiseWireModel", "comesBack", "(IIIZ)V"⟩, 59) := ⟨⟨by decide +kernel, by decide +kernel⟩, List.mem_of_getElem? (i := 545) (by decide +kernel), List.mem_of_getElem? (i := 786) (by decide +kernel), List.mem_of_getElem? (i := 787) (by decide +kernel)⟩
theorem lw_p42 : lw_okq (⟨"PromiseWireModel", "arrives", "(III)V"⟩, 59) := ⟨⟨by decide +kernel, by decide +kernel⟩, List.mem_of_getElem? (i := 545) (by decide +kernel), List.mem_of_getElem? (i := 790) (by decide +kernel), List.mem_of_getElem? (i := 791) (by decide +kernel)⟩
theorem lw_p43 : lw_okq (⟨"PromiseWireModel", "postsWhens", "(IIII)V"⟩, 59) := ⟨⟨by decide +kernel, by decide +kernel⟩, List.mem_of_getElem? (i := 545) (by decide +kernel), List.mem_of_getElem? (i := 794) (by decide +kernel), List.mem_of_getElem? (i := 795) (by decide +kernel)⟩
theorem lw_p44 : lw_okq (⟨"PromiseWireModel", "postsWhen", "(III)V"⟩, 59) := ⟨⟨by decide +kernel, by decide +kernel⟩, List.mem_of_getElem? (i := 545) (by decide +kernel), List.mem_of_getElem? (i := 798) (by decide +kernel), List.mem_of_getElem? (i := 799) (by decide +kernel)⟩
theorem lw_p45 : lw_okq (⟨"PromiseWireModel", "sendsWhen", "(III)V"⟩, 59) := ⟨⟨by decide +kernel, by decide +kernel⟩, List.mem_of_getElem? (i := 545) (by decide +kernel), List.mem_of_getElem? (i := 802) (by decide +kernel), List.mem_of_getElem? (i := 803) (by decide +kernel)⟩
theorem lw_p46 : lw_okq (⟨"PromiseWireModel", "posts", "(IIIIIIIIZ)V"⟩, 59) := ⟨⟨by decide +kernel, by decide +kernel⟩, List.mem_of_getElem? (i := 545) (by decide +kernel), List.mem_of_getElem? (i := 806) (by decide +kernel), List.mem_of_getElem? (i := 807) (by decide +kernel)⟩
theorem lw_p47 : lw_okq (⟨"PromiseWireModel", "doesAll", "()V"⟩, 59) := ⟨⟨by decide +kernel, by decide +kernel⟩, List.mem_of_getElem? (i := 545) (by decide +kernel), List.mem_of_getElem? (i := 810) (by decide +kernel), List.mem_of_getElem? (i := 811) (by decide +kernel)⟩
def lw_privs_3 : List (MethodName × Nat) := [(⟨"PromiseWire", "messagesHeld", "()I"⟩, 10), (⟨"PromiseWire", "messagesWaiting", "()I"⟩, 10), (⟨"PromiseWireModel", "comes", "(IIIII)I"⟩, 59), (⟨"PromiseWireModel", "isThing", "(I)Z"⟩, 59), (⟨"PromiseWireModel", "answersAll", "(II)I"⟩, 59), (⟨"PromiseWireModel", "firstKept", "(II)I"⟩, 59), (⟨"PromiseWireModel", "settles", "(IIII)V"⟩, 59), (⟨"PromiseWireModel", "isToBeDone", "(III)V"⟩, 59), (⟨"PromiseWireModel", "sendsAnswer", "(IIIIZ)V"⟩, 59), (⟨"PromiseWireModel", "comesBack", "(IIIZ)V"⟩, 59), (⟨"PromiseWireModel", "arrives", "(III)V"⟩, 59), (⟨"PromiseWireModel", "postsWhens", "(IIII)V"⟩, 59), (⟨"PromiseWireModel", "postsWhen", "(III)V"⟩, 59), (⟨"PromiseWireModel", "sendsWhen", "(III)V"⟩, 59), (⟨"PromiseWireModel", "posts", "(IIIIIIIIZ)V"⟩, 59), (⟨"PromiseWireModel", "doesAll", "()V"⟩, 59)]
theorem lw_r3 : ∀ q ∈ lw_privs_3, lw_okq q := List.forall_mem_cons.mpr ⟨lw_p32, List.forall_mem_cons.mpr ⟨lw_p33, List.forall_mem_cons.mpr ⟨lw_p34, List.forall_mem_cons.mpr ⟨lw_p35, List.forall_mem_cons.mpr ⟨lw_p36, List.forall_mem_cons.mpr ⟨lw_p37, List.forall_mem_cons.mpr ⟨lw_p38, List.forall_mem_cons.mpr ⟨lw_p39, List.forall_mem_cons.mpr ⟨lw_p40, List.forall_mem_cons.mpr ⟨lw_p41, List.forall_mem_cons.mpr ⟨lw_p42, List.forall_mem_cons.mpr ⟨lw_p43, List.forall_mem_cons.mpr ⟨lw_p44, List.forall_mem_cons.mpr ⟨lw_p45, List.forall_mem_cons.mpr ⟨lw_p46, List.forall_mem_cons.mpr ⟨lw_p47, fun _ h => absurd h List.not_mem_nil⟩⟩⟩⟩⟩⟩⟩⟩⟩⟩⟩⟩⟩⟩⟩⟩
theorem lw_p48 : lw_okq (⟨"PromiseWireModel", "doesOne", "(III)V"⟩, 59) := ⟨⟨by decide +kernel, by decide +kernel⟩, List.mem_of_getElem? (i := 545) (by decide +kernel), List.mem_of_getElem? (i := 814) (by decide +kernel), List.mem_of_getElem? (i := 815) (by decide +kernel)⟩
theorem lw_p49 : lw_okq (⟨"PromiseWireModel", "goesOn", "(IIII)V"⟩, 59) := ⟨⟨by decide +kernel, by decide +kernel⟩, List.mem_of_getElem? (i := 545) (by decide +kernel), List.mem_of_getElem? (i := 818) (by decide +kernel), List.mem_of_getElem? (i := 819) (by decide +kernel)⟩
theorem lw_p50 : lw_okq (⟨"PromiseWireModel", "sendsToThing", "(III)V"⟩, 59) := ⟨⟨by decide +kernel, by decide +kernel⟩, List.mem_of_getElem? (i := 545) (by decide +kernel), List.mem_of_getElem? (i := 822) (by decide +kernel), List.mem_of_getElem? (i := 823) (by decide +kernel)⟩
theorem lw_p51 : lw_okq (⟨"PromiseWireModel", "sends", "(IIIII)V"⟩, 59) := ⟨⟨by decide +kernel, by decide +kernel⟩, List.mem_of_getElem? (i := 545) (by decide +kernel), List.mem_of_getElem? (i := 826) (by decide +kernel), List.mem_of_getElem? (i := 827) (by decide +kernel)⟩
theorem lw_p52 : lw_okq (⟨"PromiseWireModel", "losesMessage", "(II)V"⟩, 59) := ⟨⟨by decide +kernel, by decide +kernel⟩, List.mem_of_getElem? (i := 545) (by decide +kernel), List.mem_of_getElem? (i := 830) (by decide +kernel), List.mem_of_getElem? (i := 831) (by decide +kernel)⟩
theorem lw_p53 : lw_okq (⟨"PromiseWireModel", "isPromise", "(I)Z"⟩, 59) := ⟨⟨by decide +kernel, by decide +kernel⟩, List.mem_of_getElem? (i := 545) (by decide +kernel), List.mem_of_getElem? (i := 838) (by decide +kernel), List.mem_of_getElem? (i := 839) (by decide +kernel)⟩
theorem lw_p54 : lw_okq (⟨"PromiseWireModel", "isOf", "(II)Z"⟩, 59) := ⟨⟨by decide +kernel, by decide +kernel⟩, List.mem_of_getElem? (i := 545) (by decide +kernel), List.mem_of_getElem? (i := 842) (by decide +kernel), List.mem_of_getElem? (i := 843) (by decide +kernel)⟩
theorem lw_p55 : lw_okq (⟨"PromiseWireModel", "stateIn", "(II)I"⟩, 59) := ⟨⟨by decide +kernel, by decide +kernel⟩, List.mem_of_getElem? (i := 545) (by decide +kernel), List.mem_of_getElem? (i := 850) (by decide +kernel), List.mem_of_getElem? (i := 851) (by decide +kernel)⟩
theorem lw_p56 : lw_okq (⟨"PromiseWireModel", "valueIn", "(II)I"⟩, 59) := ⟨⟨by decide +kernel, by decide +kernel⟩, List.mem_of_getElem? (i := 545) (by decide +kernel), List.mem_of_getElem? (i := 854) (by decide +kernel), List.mem_of_getElem? (i := 855) (by decide +kernel)⟩
theorem lw_p57 : lw_okq (⟨"PromiseWireModel", "waitsFor", "(I)I"⟩, 59) := ⟨⟨by decide +kernel, by decide +kernel⟩, List.mem_of_getElem? (i := 545) (by decide +kernel), List.mem_of_getElem? (i := 866) (by decide +kernel), List.mem_of_getElem? (i := 867) (by decide +kernel)⟩
theorem lw_p58 : lw_okq (⟨"PromiseWireModel", "firstLetter", "(II)I"⟩, 59) := ⟨⟨by decide +kernel, by decide +kernel⟩, List.mem_of_getElem? (i := 545) (by decide +kernel), List.mem_of_getElem? (i := 877) (by decide +kernel), List.mem_of_getElem? (i := 878) (by decide +kernel)⟩
theorem lw_p59 : lw_okq (⟨"PromiseWireModel", "delivers", "(I)I"⟩, 59) := ⟨⟨by decide +kernel, by decide +kernel⟩, List.mem_of_getElem? (i := 545) (by decide +kernel), List.mem_of_getElem? (i := 881) (by decide +kernel), List.mem_of_getElem? (i := 882) (by decide +kernel)⟩
theorem lw_p60 : lw_okq (⟨"PromiseWireModel", "takesOut", "(I)V"⟩, 59) := ⟨⟨by decide +kernel, by decide +kernel⟩, List.mem_of_getElem? (i := 545) (by decide +kernel), List.mem_of_getElem? (i := 885) (by decide +kernel), List.mem_of_getElem? (i := 886) (by decide +kernel)⟩
theorem lw_p61 : lw_okq (⟨"PromiseWireModel", "comesToThing", "()V"⟩, 59) := ⟨⟨by decide +kernel, by decide +kernel⟩, List.mem_of_getElem? (i := 545) (by decide +kernel), List.mem_of_getElem? (i := 889) (by decide +kernel), List.mem_of_getElem? (i := 890) (by decide +kernel)⟩
theorem lw_p62 : lw_okq (⟨"PromiseWireModel", "hears", "(I)V"⟩, 59) := ⟨⟨by decide +kernel, by decide +kernel⟩, List.mem_of_getElem? (i := 545) (by decide +kernel), List.mem_of_getElem? (i := 893) (by decide +kernel), List.mem_of_getElem? (i := 894) (by decide +kernel)⟩
theorem lw_p63 : lw_okq (⟨"PromiseWireModel", "cell", "(I)V"⟩, 59) := ⟨⟨by decide +kernel, by decide +kernel⟩, List.mem_of_getElem? (i := 545) (by decide +kernel), List.mem_of_getElem? (i := 897) (by decide +kernel), List.mem_of_getElem? (i := 898) (by decide +kernel)⟩
def lw_privs_4 : List (MethodName × Nat) := [(⟨"PromiseWireModel", "doesOne", "(III)V"⟩, 59), (⟨"PromiseWireModel", "goesOn", "(IIII)V"⟩, 59), (⟨"PromiseWireModel", "sendsToThing", "(III)V"⟩, 59), (⟨"PromiseWireModel", "sends", "(IIIII)V"⟩, 59), (⟨"PromiseWireModel", "losesMessage", "(II)V"⟩, 59), (⟨"PromiseWireModel", "isPromise", "(I)Z"⟩, 59), (⟨"PromiseWireModel", "isOf", "(II)Z"⟩, 59), (⟨"PromiseWireModel", "stateIn", "(II)I"⟩, 59), (⟨"PromiseWireModel", "valueIn", "(II)I"⟩, 59), (⟨"PromiseWireModel", "waitsFor", "(I)I"⟩, 59), (⟨"PromiseWireModel", "firstLetter", "(II)I"⟩, 59), (⟨"PromiseWireModel", "delivers", "(I)I"⟩, 59), (⟨"PromiseWireModel", "takesOut", "(I)V"⟩, 59), (⟨"PromiseWireModel", "comesToThing", "()V"⟩, 59), (⟨"PromiseWireModel", "hears", "(I)V"⟩, 59), (⟨"PromiseWireModel", "cell", "(I)V"⟩, 59)]
theorem lw_r4 : ∀ q ∈ lw_privs_4, lw_okq q := List.forall_mem_cons.mpr ⟨lw_p48, List.forall_mem_cons.mpr ⟨lw_p49, List.forall_mem_cons.mpr ⟨lw_p50, List.forall_mem_cons.mpr ⟨lw_p51, List.forall_mem_cons.mpr ⟨lw_p52, List.forall_mem_cons.mpr ⟨lw_p53, List.forall_mem_cons.mpr ⟨lw_p54, List.forall_mem_cons.mpr ⟨lw_p55, List.forall_mem_cons.mpr ⟨lw_p56, List.forall_mem_cons.mpr ⟨lw_p57, List.forall_mem_cons.mpr ⟨lw_p58, List.forall_mem_cons.mpr ⟨lw_p59, List.forall_mem_cons.mpr ⟨lw_p60, List.forall_mem_cons.mpr ⟨lw_p61, List.forall_mem_cons.mpr ⟨lw_p62, List.forall_mem_cons.mpr ⟨lw_p63, fun _ h => absurd h List.not_mem_nil⟩⟩⟩⟩⟩⟩⟩⟩⟩⟩⟩⟩⟩⟩⟩⟩
theorem lw_p64 : lw_okq (⟨"PromiseWireModel", "answers", "(III)V"⟩, 59) := ⟨⟨by decide +kernel, by decide +kernel⟩, List.mem_of_getElem? (i := 545) (by decide +kernel), List.mem_of_getElem? (i := 901) (by decide +kernel), List.mem_of_getElem? (i := 902) (by decide +kernel)⟩
theorem lw_p65 : lw_okq (⟨"PromiseWireModel", "breaks", "(II)V"⟩, 59) := ⟨⟨by decide +kernel, by decide +kernel⟩, List.mem_of_getElem? (i := 545) (by decide +kernel), List.mem_of_getElem? (i := 905) (by decide +kernel), List.mem_of_getElem? (i := 906) (by decide +kernel)⟩
theorem lw_p66 : lw_okq (⟨"PromiseWireModel", "purse", "(I)V"⟩, 59) := ⟨⟨by decide +kernel, by decide +kernel⟩, List.mem_of_getElem? (i := 545) (by decide +kernel), List.mem_of_getElem? (i := 909) (by decide +kernel), List.mem_of_getElem? (i := 910) (by decide +kernel)⟩
theorem lw_p67 : lw_okq (⟨"PromiseWireModel", "moves", "(I)V"⟩, 59) := ⟨⟨by decide +kernel, by decide +kernel⟩, List.mem_of_getElem? (i := 545) (by decide +kernel), List.mem_of_getElem? (i := 914) (by decide +kernel), List.mem_of_getElem? (i := 915) (by decide +kernel)⟩
theorem lw_p68 : lw_okq (⟨"PromiseWireModel", "maker", "(I)V"⟩, 59) := ⟨⟨by decide +kernel, by decide +kernel⟩, List.mem_of_getElem? (i := 545) (by decide +kernel), List.mem_of_getElem? (i := 918) (by decide +kernel), List.mem_of_getElem? (i := 919) (by decide +kernel)⟩
theorem lw_p69 : lw_okq (⟨"PromiseWireModel", "guardHears", "(I)V"⟩, 59) := ⟨⟨by decide +kernel, by decide +kernel⟩, List.mem_of_getElem? (i := 545) (by decide +kernel), List.mem_of_getElem? (i := 923) (by decide +kernel), List.mem_of_getElem? (i := 924) (by decide +kernel)⟩
theorem lw_p70 : lw_okq (⟨"PromiseWireModel", "switchHears", "(I)V"⟩, 59) := ⟨⟨by decide +kernel, by decide +kernel⟩, List.mem_of_getElem? (i := 545) (by decide +kernel), List.mem_of_getElem? (i := 928) (by decide +kernel), List.mem_of_getElem? (i := 929) (by decide +kernel)⟩
theorem lw_p71 : lw_okq (⟨"PromiseWireModel", "joiner", "(I)V"⟩, 59) := ⟨⟨by decide +kernel, by decide +kernel⟩, List.mem_of_getElem? (i := 545) (by decide +kernel), List.mem_of_getElem? (i := 933) (by decide +kernel), List.mem_of_getElem? (i := 934) (by decide +kernel)⟩
theorem lw_p72 : lw_okq (⟨"PromiseWireModel", "holds", "(I)V"⟩, 59) := ⟨⟨by decide +kernel, by decide +kernel⟩, List.mem_of_getElem? (i := 545) (by decide +kernel), List.mem_of_getElem? (i := 938) (by decide +kernel), List.mem_of_getElem? (i := 939) (by decide +kernel)⟩
theorem lw_p73 : lw_okq (⟨"PromiseWireModel", "sleeper", "(I)V"⟩, 59) := ⟨⟨by decide +kernel, by decide +kernel⟩, List.mem_of_getElem? (i := 545) (by decide +kernel), List.mem_of_getElem? (i := 942) (by decide +kernel), List.mem_of_getElem? (i := 943) (by decide +kernel)⟩
theorem lw_p74 : lw_okq (⟨"PromiseWireModel", "comesToPromise", "()V"⟩, 59) := ⟨⟨by decide +kernel, by decide +kernel⟩, List.mem_of_getElem? (i := 545) (by decide +kernel), List.mem_of_getElem? (i := 947) (by decide +kernel), List.mem_of_getElem? (i := 948) (by decide +kernel)⟩
theorem lw_p75 : lw_okq (⟨"PromiseWireModel", "losesAll", "(II)I"⟩, 59) := ⟨⟨by decide +kernel, by decide +kernel⟩, List.mem_of_getElem? (i := 545) (by decide +kernel), List.mem_of_getElem? (i := 959) (by decide +kernel), List.mem_of_getElem? (i := 960) (by decide +kernel)⟩
theorem lw_p76 : lw_okq (⟨"PromiseWireModel", "letterOf", "(III)I"⟩, 59) := ⟨⟨by decide +kernel, by decide +kernel⟩, List.mem_of_getElem? (i := 545) (by decide +kernel), List.mem_of_getElem? (i := 975) (by decide +kernel), List.mem_of_getElem? (i := 976) (by decide +kernel)⟩
theorem lw_p77 : lw_okq (⟨"PromiseWireModel", "countWhere", "(I)I"⟩, 59) := ⟨⟨by decide +kernel, by decide +kernel⟩, List.mem_of_getElem? (i := 545) (by decide +kernel), List.mem_of_getElem? (i := 987) (by decide +kernel), List.mem_of_getElem? (i := 988) (by decide +kernel)⟩
def lw_privs_5 : List (MethodName × Nat) := [(⟨"PromiseWireModel", "answers", "(III)V"⟩, 59), (⟨"PromiseWireModel", "breaks", "(II)V"⟩, 59), (⟨"PromiseWireModel", "purse", "(I)V"⟩, 59), (⟨"PromiseWireModel", "moves", "(I)V"⟩, 59), (⟨"PromiseWireModel", "maker", "(I)V"⟩, 59), (⟨"PromiseWireModel", "guardHears", "(I)V"⟩, 59), (⟨"PromiseWireModel", "switchHears", "(I)V"⟩, 59), (⟨"PromiseWireModel", "joiner", "(I)V"⟩, 59), (⟨"PromiseWireModel", "holds", "(I)V"⟩, 59), (⟨"PromiseWireModel", "sleeper", "(I)V"⟩, 59), (⟨"PromiseWireModel", "comesToPromise", "()V"⟩, 59), (⟨"PromiseWireModel", "losesAll", "(II)I"⟩, 59), (⟨"PromiseWireModel", "letterOf", "(III)I"⟩, 59), (⟨"PromiseWireModel", "countWhere", "(I)I"⟩, 59)]
theorem lw_r5 : ∀ q ∈ lw_privs_5, lw_okq q := List.forall_mem_cons.mpr ⟨lw_p64, List.forall_mem_cons.mpr ⟨lw_p65, List.forall_mem_cons.mpr ⟨lw_p66, List.forall_mem_cons.mpr ⟨lw_p67, List.forall_mem_cons.mpr ⟨lw_p68, List.forall_mem_cons.mpr ⟨lw_p69, List.forall_mem_cons.mpr ⟨lw_p70, List.forall_mem_cons.mpr ⟨lw_p71, List.forall_mem_cons.mpr ⟨lw_p72, List.forall_mem_cons.mpr ⟨lw_p73, List.forall_mem_cons.mpr ⟨lw_p74, List.forall_mem_cons.mpr ⟨lw_p75, List.forall_mem_cons.mpr ⟨lw_p76, List.forall_mem_cons.mpr ⟨lw_p77, fun _ h => absurd h List.not_mem_nil⟩⟩⟩⟩⟩⟩⟩⟩⟩⟩⟩⟩⟩⟩
def lw_privs : List (MethodName × Nat) := lw_privs_1 ++ (lw_privs_2 ++ (lw_privs_3 ++ (lw_privs_4 ++ (lw_privs_5))))
def lw_tbl : List Cond := k2_sels lw_privs ++ tables_1
theorem lw_privs_ok : ∀ q ∈ lw_privs, lw_okq q := by
  show ∀ q ∈ lw_privs_1 ++ (lw_privs_2 ++ (lw_privs_3 ++ (lw_privs_4 ++ (lw_privs_5)))), lw_okq q
  exact List.forall_mem_append.mpr ⟨lw_r1, List.forall_mem_append.mpr ⟨lw_r2, List.forall_mem_append.mpr ⟨lw_r3, List.forall_mem_append.mpr ⟨lw_r4, lw_r5⟩⟩⟩⟩
end
section
def RX0 : String := "PromiseWire$Line"
def TX0 : u_T := fun k => match k with
  | 0 => ("PromiseWire$Line", "first", "LPromiseWire$Message;", false)
  | 1 => ("PromiseWire$Line", "last", "LPromiseWire$Message;", false)
  | _ => ("PromiseWire$Line", "size", "I", false)
def tyX0 : Nat → FieldType := fun k => match k with
  | 0 => .object "PromiseWire$Message"
  | 1 => .object "PromiseWire$Message"
  | _ => .int
theorem nmX0 : ∀ a, a < 3 → ∀ b, b < 3 → a ≠ b → (TX0 a).2.1 ≠ (TX0 b).2.1 := by decide +kernel
theorem tyX0_ok : ∀ k, k < 3 → parseFieldDescriptor (TX0 k).2.2.1 = some (tyX0 k) := by decide +kernel
abbrev cX0_init : ByteArray := prog_2_method_1_code
def yX0_init : MethodName := ⟨RX0, "<init>", "()V"⟩
abbrev cX0_add : ByteArray := prog_2_method_2_code
def yX0_add : MethodName := ⟨RX0, "add", "(LPromiseWire$Message;)V"⟩
abbrev cX0_take : ByteArray := prog_2_method_3_code
def yX0_take : MethodName := ⟨RX0, "take", "()LPromiseWire$Message;"⟩
abbrev cX0_at : ByteArray := prog_2_method_4_code
def yX0_at : MethodName := ⟨RX0, "at", "(I)LPromiseWire$Message;"⟩
abbrev cX0_sumOfNs : ByteArray := prog_2_method_5_code
def yX0_sumOfNs : MethodName := ⟨RX0, "sumOfNs", "()I"⟩
def RX1 : String := "PromiseWire$Message"
def TX1 : u_T := fun k => match k with
  | 0 => ("PromiseWire$Message", "promise", "LPromiseWire$Promise;", false)
  | 1 => ("PromiseWire$Message", "act", "I", false)
  | 2 => ("PromiseWire$Message", "n", "I", true)
  | 3 => ("PromiseWire$Message", "other", "LPromiseWire$Thing;", true)
  | 4 => ("PromiseWire$Message", "target", "LPromiseWire$Thing;", false)
  | 5 => ("PromiseWire$Message", "ahead", "LPromiseWire$Promise;", false)
  | 6 => ("PromiseWire$Message", "purse", "LPromiseWire$Thing;", false)
  | 7 => ("PromiseWire$Message", "isAnswer", "Z", false)
  | 8 => ("PromiseWire$Message", "how", "I", false)
  | 9 => ("PromiseWire$Message", "value", "I", false)
  | 10 => ("PromiseWire$Message", "place", "I", false)
  | 11 => ("PromiseWire$Message", "letters", "I", false)
  | _ => ("PromiseWire$Message", "next", "LPromiseWire$Message;", false)
def tyX1 : Nat → FieldType := fun k => match k with
  | 0 => .object "PromiseWire$Promise"
  | 1 => .int
  | 2 => .int
  | 3 => .object "PromiseWire$Thing"
  | 4 => .object "PromiseWire$Thing"
  | 5 => .object "PromiseWire$Promise"
  | 6 => .object "PromiseWire$Thing"
  | 7 => .boolean
  | 8 => .int
  | 9 => .int
  | 10 => .int
  | 11 => .int
  | _ => .object "PromiseWire$Message"
theorem nmX1 : ∀ a, a < 13 → ∀ b, b < 13 → a ≠ b → (TX1 a).2.1 ≠ (TX1 b).2.1 := by decide +kernel
theorem tyX1_ok : ∀ k, k < 13 → parseFieldDescriptor (TX1 k).2.2.1 = some (tyX1 k) := by decide +kernel
abbrev cX1_init : ByteArray := prog_3_method_1_code
def yX1_init : MethodName := ⟨RX1, "<init>", "(IILPromiseWire$Thing;)V"⟩
abbrev cX1_answer : ByteArray := prog_3_method_2_code
def yX1_answer : MethodName := ⟨RX1, "answer", "(II)I"⟩
abbrev cX1_breakByCut : ByteArray := prog_3_method_3_code
def yX1_breakByCut : MethodName := ⟨RX1, "breakByCut", "()V"⟩
abbrev cX1_destination : ByteArray := prog_3_method_4_code
def yX1_destination : MethodName := ⟨RX1, "destination", "()I"⟩
abbrev cX1_whatLetter : ByteArray := prog_3_method_5_code
def yX1_whatLetter : MethodName := ⟨RX1, "whatLetter", "()I"⟩
def RX2 : String := "PromiseWire$Promise"
def TX2 : u_T := fun k => match k with
  | 0 => ("PromiseWire$Promise", "id", "I", true)
  | 1 => ("PromiseWire$Promise", "asker", "I", true)
  | 2 => ("PromiseWire$Promise", "home", "I", true)
  | 3 => ("PromiseWire$Promise", "message", "LPromiseWire$Message;", true)
  | 4 => ("PromiseWire$Promise", "waiting", "LPromiseWire$Line;", true)
  | 5 => ("PromiseWire$Promise", "homeHow", "I", false)
  | 6 => ("PromiseWire$Promise", "homeValue", "I", false)
  | 7 => ("PromiseWire$Promise", "askerHow", "I", false)
  | _ => ("PromiseWire$Promise", "askerValue", "I", false)
def tyX2 : Nat → FieldType := fun k => match k with
  | 0 => .int
  | 1 => .int
  | 2 => .int
  | 3 => .object "PromiseWire$Message"
  | 4 => .object "PromiseWire$Line"
  | 5 => .int
  | 6 => .int
  | 7 => .int
  | _ => .int
theorem nmX2 : ∀ a, a < 9 → ∀ b, b < 9 → a ≠ b → (TX2 a).2.1 ≠ (TX2 b).2.1 := by decide +kernel
theorem tyX2_ok : ∀ k, k < 9 → parseFieldDescriptor (TX2 k).2.2.1 = some (tyX2 k) := by decide +kernel
abbrev cX2_init : ByteArray := prog_4_method_1_code
def yX2_init : MethodName := ⟨RX2, "<init>", "(IIILPromiseWire$Message;)V"⟩
abbrev cX2_isKnownIn : ByteArray := prog_4_method_2_code
def yX2_isKnownIn : MethodName := ⟨RX2, "isKnownIn", "(I)Z"⟩
abbrev cX2_howIn : ByteArray := prog_4_method_3_code
def yX2_howIn : MethodName := ⟨RX2, "howIn", "(I)I"⟩
abbrev cX2_valueIn : ByteArray := prog_4_method_4_code
def yX2_valueIn : MethodName := ⟨RX2, "valueIn", "(I)I"⟩
def RX3 : String := "PromiseWire$Thing"
def TX3 : u_T := fun k => match k with
  | 0 => ("PromiseWire$Thing", "id", "I", true)
  | 1 => ("PromiseWire$Thing", "house", "I", true)
  | 2 => ("PromiseWire$Thing", "kind", "I", true)
  | 3 => ("PromiseWire$Thing", "guarded", "LPromiseWire$Thing;", true)
  | 4 => ("PromiseWire$Thing", "acts", "I", true)
  | 5 => ("PromiseWire$Thing", "held", "LPromiseWire$Line;", true)
  | 6 => ("PromiseWire$Thing", "number", "I", false)
  | 7 => ("PromiseWire$Thing", "isShut", "Z", false)
  | _ => ("PromiseWire$Thing", "isTakenBack", "Z", false)
def tyX3 : Nat → FieldType := fun k => match k with
  | 0 => .int
  | 1 => .int
  | 2 => .int
  | 3 => .object "PromiseWire$Thing"
  | 4 => .int
  | 5 => .object "PromiseWire$Line"
  | 6 => .int
  | 7 => .boolean
  | _ => .boolean
theorem nmX3 : ∀ a, a < 9 → ∀ b, b < 9 → a ≠ b → (TX3 a).2.1 ≠ (TX3 b).2.1 := by decide +kernel
theorem tyX3_ok : ∀ k, k < 9 → parseFieldDescriptor (TX3 k).2.2.1 = some (tyX3 k) := by decide +kernel
abbrev cX3_init : ByteArray := prog_5_method_1_code
def yX3_init : MethodName := ⟨RX3, "<init>", "(IIIILPromiseWire$Thing;I)V"⟩
def RX4 : String := "PromiseWire$When"
def TX4 : u_T := fun k => match k with
  | 0 => ("PromiseWire$When", "promise", "LPromiseWire$Promise;", true)
  | 1 => ("PromiseWire$When", "house", "I", true)
  | _ => ("PromiseWire$When", "thing", "LPromiseWire$Thing;", true)
def tyX4 : Nat → FieldType := fun k => match k with
  | 0 => .object "PromiseWire$Promise"
  | 1 => .int
  | _ => .object "PromiseWire$Thing"
theorem nmX4 : ∀ a, a < 3 → ∀ b, b < 3 → a ≠ b → (TX4 a).2.1 ≠ (TX4 b).2.1 := by decide +kernel
theorem tyX4_ok : ∀ k, k < 3 → parseFieldDescriptor (TX4 k).2.2.1 = some (tyX4 k) := by decide +kernel
abbrev cX4_init : ByteArray := prog_6_method_1_code
def yX4_init : MethodName := ⟨RX4, "<init>", "(LPromiseWire$Promise;ILPromiseWire$Thing;)V"⟩
def RX5 : String := "PromiseWire$Wire"
def TX5 : u_T := fun k => match k with
  | 0 => ("PromiseWire$Wire", "from", "I", true)
  | 1 => ("PromiseWire$Wire", "to", "I", true)
  | 2 => ("PromiseWire$Wire", "letters", "LPromiseWire$Line;", true)
  | _ => ("PromiseWire$Wire", "isCut", "Z", false)
def tyX5 : Nat → FieldType := fun k => match k with
  | 0 => .int
  | 1 => .int
  | 2 => .object "PromiseWire$Line"
  | _ => .boolean
theorem nmX5 : ∀ a, a < 4 → ∀ b, b < 4 → a ≠ b → (TX5 a).2.1 ≠ (TX5 b).2.1 := by decide +kernel
theorem tyX5_ok : ∀ k, k < 4 → parseFieldDescriptor (TX5 k).2.2.1 = some (tyX5 k) := by decide +kernel
abbrev cX5_init : ByteArray := prog_7_method_1_code
def yX5_init : MethodName := ⟨RX5, "<init>", "(II)V"⟩
def RX6 : String := "PromiseWire"
def TX6 : u_T := fun k => match k with
  | 0 => ("PromiseWire", "things", "[LPromiseWire$Thing;", true)
  | 1 => ("PromiseWire", "promises", "[LPromiseWire$Promise;", true)
  | 2 => ("PromiseWire", "whens", "[LPromiseWire$When;", true)
  | 3 => ("PromiseWire", "wires", "[LPromiseWire$Wire;", true)
  | 4 => ("PromiseWire", "toBeDone", "LPromiseWire$Line;", true)
  | 5 => ("PromiseWire", "thingCount", "I", false)
  | 6 => ("PromiseWire", "promiseCount", "I", false)
  | 7 => ("PromiseWire", "whenCount", "I", false)
  | 8 => ("PromiseWire", "turns", "I", false)
  | _ => ("PromiseWire", "traced", "J", false)
def tyX6 : Nat → FieldType := fun k => match k with
  | 0 => .array (.object "PromiseWire$Thing")
  | 1 => .array (.object "PromiseWire$Promise")
  | 2 => .array (.object "PromiseWire$When")
  | 3 => .array (.object "PromiseWire$Wire")
  | 4 => .object "PromiseWire$Line"
  | 5 => .int
  | 6 => .int
  | 7 => .int
  | 8 => .int
  | _ => .long
theorem nmX6 : ∀ a, a < 10 → ∀ b, b < 10 → a ≠ b → (TX6 a).2.1 ≠ (TX6 b).2.1 := by decide +kernel
theorem tyX6_ok : ∀ k, k < 10 → parseFieldDescriptor (TX6 k).2.2.1 = some (tyX6 k) := by decide +kernel
abbrev cX6_init : ByteArray := prog_1_method_1_code
def yX6_init : MethodName := ⟨RX6, "<init>", "()V"⟩
abbrev cX6_thing : ByteArray := prog_1_method_2_code
def yX6_thing : MethodName := ⟨RX6, "thing", "(III)I"⟩
abbrev cX6_guard : ByteArray := prog_1_method_3_code
def yX6_guard : MethodName := ⟨RX6, "guard", "(IIIZ)I"⟩
abbrev cX6_shut : ByteArray := prog_1_method_4_code
def yX6_shut : MethodName := ⟨RX6, "shut", "(IZ)I"⟩
abbrev cX6_back : ByteArray := prog_1_method_5_code
def yX6_back : MethodName := ⟨RX6, "back", "(I)I"⟩
abbrev cX6_wake : ByteArray := prog_1_method_6_code
def yX6_wake : MethodName := ⟨RX6, "wake", "(II)I"⟩
abbrev cX6_about : ByteArray := prog_1_method_7_code
def yX6_about : MethodName := ⟨RX6, "about", "(II)I"⟩
abbrev cX6_ask : ByteArray := prog_1_method_8_code
def yX6_ask : MethodName := ⟨RX6, "ask", "(IIIIII)I"⟩
abbrev cX6_when : ByteArray := prog_1_method_9_code
def yX6_when : MethodName := ⟨RX6, "when", "(III)I"⟩
abbrev cX6_state : ByteArray := prog_1_method_10_code
def yX6_state : MethodName := ⟨RX6, "state", "(III)I"⟩
abbrev cX6_promise : ByteArray := prog_1_method_11_code
def yX6_promise : MethodName := ⟨RX6, "promise", "(II)I"⟩
abbrev cX6_deliver : ByteArray := prog_1_method_12_code
def yX6_deliver : MethodName := ⟨RX6, "deliver", "(II)I"⟩
abbrev cX6_flow : ByteArray := prog_1_method_13_code
def yX6_flow : MethodName := ⟨RX6, "flow", "(I)I"⟩
abbrev cX6_cut : ByteArray := prog_1_method_14_code
def yX6_cut : MethodName := ⟨RX6, "cut", "(II)I"⟩
abbrev cX6_again : ByteArray := prog_1_method_15_code
def yX6_again : MethodName := ⟨RX6, "again", "(II)I"⟩
abbrev cX6_wire : ByteArray := prog_1_method_16_code
def yX6_wire : MethodName := ⟨RX6, "wire", "(II)I"⟩
abbrev cX6_letter : ByteArray := prog_1_method_17_code
def yX6_letter : MethodName := ⟨RX6, "letter", "(IIII)I"⟩
abbrev cX6_purses : ByteArray := prog_1_method_18_code
def yX6_purses : MethodName := ⟨RX6, "purses", "()J"⟩
abbrev cX6_count : ByteArray := prog_1_method_19_code
def yX6_count : MethodName := ⟨RX6, "count", "(I)I"⟩
abbrev cX6_trace : ByteArray := prog_1_method_20_code
def yX6_trace : MethodName := ⟨RX6, "trace", "()J"⟩
abbrev cX6_isHouse : ByteArray := prog_1_method_21_code
def yX6_isHouse : MethodName := ⟨RX6, "isHouse", "(I)Z"⟩
abbrev cX6_oneIf : ByteArray := prog_1_method_22_code
def yX6_oneIf : MethodName := ⟨RX6, "oneIf", "(Z)I"⟩
abbrev cX6_thingAt : ByteArray := prog_1_method_23_code
def yX6_thingAt : MethodName := ⟨RX6, "thingAt", "(I)LPromiseWire$Thing;"⟩
abbrev cX6_promiseAt : ByteArray := prog_1_method_24_code
def yX6_promiseAt : MethodName := ⟨RX6, "promiseAt", "(I)LPromiseWire$Promise;"⟩
abbrev cX6_wireAt : ByteArray := prog_1_method_25_code
def yX6_wireAt : MethodName := ⟨RX6, "wireAt", "(II)LPromiseWire$Wire;"⟩
abbrev cX6_firstWireWithLetters : ByteArray := prog_1_method_26_code
def yX6_firstWireWithLetters : MethodName := ⟨RX6, "firstWireWithLetters", "()LPromiseWire$Wire;"⟩
abbrev cX6_mayBegin : ByteArray := prog_1_method_27_code
def yX6_mayBegin : MethodName := ⟨RX6, "mayBegin", "(II)Z"⟩
abbrev cX6_addThing : ByteArray := prog_1_method_28_code
def yX6_addThing : MethodName := ⟨RX6, "addThing", "(IIILPromiseWire$Thing;I)I"⟩
abbrev cX6_hear : ByteArray := prog_1_method_29_code
def yX6_hear : MethodName := ⟨RX6, "hear", "(LPromiseWire$Thing;LPromiseWire$Message;)I"⟩
abbrev cX6_hearAsCell : ByteArray := prog_1_method_30_code
def yX6_hearAsCell : MethodName := ⟨RX6, "hearAsCell", "(LPromiseWire$Thing;LPromiseWire$Message;)I"⟩
abbrev cX6_hearAsPurse : ByteArray := prog_1_method_31_code
def yX6_hearAsPurse : MethodName := ⟨RX6, "hearAsPurse", "(LPromiseWire$Thing;LPromiseWire$Message;)I"⟩
abbrev cX6_hearAsMaker : ByteArray := prog_1_method_32_code
def yX6_hearAsMaker : MethodName := ⟨RX6, "hearAsMaker", "(LPromiseWire$Thing;LPromiseWire$Message;)I"⟩
abbrev cX6_hearAsGuard : ByteArray := prog_1_method_33_code
def yX6_hearAsGuard : MethodName := ⟨RX6, "hearAsGuard", "(LPromiseWire$Thing;LPromiseWire$Message;)I"⟩
abbrev cX6_hearAsSwitch : ByteArray := prog_1_method_34_code
def yX6_hearAsSwitch : MethodName := ⟨RX6, "hearAsSwitch", "(LPromiseWire$Thing;LPromiseWire$Message;)I"⟩
abbrev cX6_hearAsJoiner : ByteArray := prog_1_method_35_code
def yX6_hearAsJoiner : MethodName := ⟨RX6, "hearAsJoiner", "(LPromiseWire$Thing;LPromiseWire$Message;)I"⟩
abbrev cX6_hearAsSleeper : ByteArray := prog_1_method_36_code
def yX6_hearAsSleeper : MethodName := ⟨RX6, "hearAsSleeper", "(LPromiseWire$Thing;LPromiseWire$Message;)I"⟩
abbrev cX6_takeTurn : ByteArray := prog_1_method_37_code
def yX6_takeTurn : MethodName := ⟨RX6, "takeTurn", "(LPromiseWire$Thing;LPromiseWire$Message;)V"⟩
abbrev cX6_hold : ByteArray := prog_1_method_38_code
def yX6_hold : MethodName := ⟨RX6, "hold", "(LPromiseWire$Thing;LPromiseWire$Message;)V"⟩
abbrev cX6_answerHeld : ByteArray := prog_1_method_39_code
def yX6_answerHeld : MethodName := ⟨RX6, "answerHeld", "(LPromiseWire$Thing;I)I"⟩
abbrev cX6_post : ByteArray := prog_1_method_40_code
def yX6_post : MethodName := ⟨RX6, "post", "(LPromiseWire$Message;II)Z"⟩
abbrev cX6_send : ByteArray := prog_1_method_41_code
def yX6_send : MethodName := ⟨RX6, "send", "(LPromiseWire$Message;I)V"⟩
abbrev cX6_settle : ByteArray := prog_1_method_42_code
def yX6_settle : MethodName := ⟨RX6, "settle", "(LPromiseWire$Message;I)V"⟩
abbrev cX6_doAll : ByteArray := prog_1_method_43_code
def yX6_doAll : MethodName := ⟨RX6, "doAll", "()V"⟩
abbrev cX6_fulfil : ByteArray := prog_1_method_44_code
def yX6_fulfil : MethodName := ⟨RX6, "fulfil", "(LPromiseWire$Promise;LPromiseWire$Message;)V"⟩
abbrev cX6_tellAsker : ByteArray := prog_1_method_45_code
def yX6_tellAsker : MethodName := ⟨RX6, "tellAsker", "(LPromiseWire$Promise;LPromiseWire$Message;)V"⟩
abbrev cX6_sendOn : ByteArray := prog_1_method_46_code
def yX6_sendOn : MethodName := ⟨RX6, "sendOn", "(LPromiseWire$Message;LPromiseWire$Promise;)V"⟩
abbrev cX6_postWhens : ByteArray := prog_1_method_47_code
def yX6_postWhens : MethodName := ⟨RX6, "postWhens", "(LPromiseWire$Promise;I)V"⟩
abbrev cX6_postWhen : ByteArray := prog_1_method_48_code
def yX6_postWhen : MethodName := ⟨RX6, "postWhen", "(LPromiseWire$When;)V"⟩
abbrev cX6_deliverFirst : ByteArray := prog_1_method_49_code
def yX6_deliverFirst : MethodName := ⟨RX6, "deliverFirst", "(LPromiseWire$Wire;)I"⟩
abbrev cX6_reachPromise : ByteArray := prog_1_method_50_code
def yX6_reachPromise : MethodName := ⟨RX6, "reachPromise", "(LPromiseWire$Message;LPromiseWire$Promise;)V"⟩
abbrev cX6_receiveAnswer : ByteArray := prog_1_method_51_code
def yX6_receiveAnswer : MethodName := ⟨RX6, "receiveAnswer", "(LPromiseWire$Message;I)V"⟩
abbrev cX6_loseFirst : ByteArray := prog_1_method_52_code
def yX6_loseFirst : MethodName := ⟨RX6, "loseFirst", "(LPromiseWire$Wire;)V"⟩
abbrev cX6_movedBy : ByteArray := prog_1_method_53_code
def yX6_movedBy : MethodName := ⟨RX6, "movedBy", "(LPromiseWire$Wire;)J"⟩
abbrev cX6_openAtHome : ByteArray := prog_1_method_54_code
def yX6_openAtHome : MethodName := ⟨RX6, "openAtHome", "()I"⟩
abbrev cX6_lettersUnderWay : ByteArray := prog_1_method_55_code
def yX6_lettersUnderWay : MethodName := ⟨RX6, "lettersUnderWay", "()I"⟩
abbrev cX6_wiresCut : ByteArray := prog_1_method_56_code
def yX6_wiresCut : MethodName := ⟨RX6, "wiresCut", "()I"⟩
abbrev cX6_messagesHeld : ByteArray := prog_1_method_57_code
def yX6_messagesHeld : MethodName := ⟨RX6, "messagesHeld", "()I"⟩
abbrev cX6_messagesWaiting : ByteArray := prog_1_method_58_code
def yX6_messagesWaiting : MethodName := ⟨RX6, "messagesWaiting", "()I"⟩
def RX7 : String := "PromiseWireModel"
def TX7 : u_T := fun k => match k with
  | 0 => ("PromiseWireModel", "things", "I", false)
  | 1 => ("PromiseWireModel", "houseOf", "[I", true)
  | 2 => ("PromiseWireModel", "kindOf", "[I", true)
  | 3 => ("PromiseWireModel", "number", "[I", true)
  | 4 => ("PromiseWireModel", "guards", "[I", true)
  | 5 => ("PromiseWireModel", "lets", "[I", true)
  | 6 => ("PromiseWireModel", "isShut", "[Z", true)
  | 7 => ("PromiseWireModel", "isBack", "[Z", true)
  | 8 => ("PromiseWireModel", "held", "[I", true)
  | 9 => ("PromiseWireModel", "promises", "I", false)
  | 10 => ("PromiseWireModel", "asker", "[I", true)
  | 11 => ("PromiseWireModel", "home", "[I", true)
  | 12 => ("PromiseWireModel", "stateHome", "[I", true)
  | 13 => ("PromiseWireModel", "valueHome", "[I", true)
  | 14 => ("PromiseWireModel", "stateAsker", "[I", true)
  | 15 => ("PromiseWireModel", "valueAsker", "[I", true)
  | 16 => ("PromiseWireModel", "letterCount", "[I", true)
  | 17 => ("PromiseWireModel", "where", "[I", true)
  | 18 => ("PromiseWireModel", "act", "[I", true)
  | 19 => ("PromiseWireModel", "amount", "[I", true)
  | 20 => ("PromiseWireModel", "other", "[I", true)
  | 21 => ("PromiseWireModel", "movedFrom", "[I", true)
  | 22 => ("PromiseWireModel", "keptBy", "[I", true)
  | 23 => ("PromiseWireModel", "since", "[I", true)
  | 24 => ("PromiseWireModel", "clock", "I", false)
  | 25 => ("PromiseWireModel", "whens", "I", false)
  | 26 => ("PromiseWireModel", "whenPromise", "[I", true)
  | 27 => ("PromiseWireModel", "whenHouse", "[I", true)
  | 28 => ("PromiseWireModel", "whenThing", "[I", true)
  | 29 => ("PromiseWireModel", "isPosted", "[Z", true)
  | 30 => ("PromiseWireModel", "letters", "I", false)
  | 31 => ("PromiseWireModel", "kind", "[I", true)
  | 32 => ("PromiseWireModel", "from", "[I", true)
  | 33 => ("PromiseWireModel", "to", "[I", true)
  | 34 => ("PromiseWireModel", "about", "[I", true)
  | 35 => ("PromiseWireModel", "goesThing", "[I", true)
  | 36 => ("PromiseWireModel", "goesPromise", "[I", true)
  | 37 => ("PromiseWireModel", "first", "[I", true)
  | 38 => ("PromiseWireModel", "second", "[I", true)
  | 39 => ("PromiseWireModel", "isBackwards", "[Z", true)
  | 40 => ("PromiseWireModel", "isCut", "[Z", true)
  | 41 => ("PromiseWireModel", "dues", "I", false)
  | 42 => ("PromiseWireModel", "duePromise", "[I", true)
  | 43 => ("PromiseWireModel", "dueState", "[I", true)
  | 44 => ("PromiseWireModel", "dueValue", "[I", true)
  | 45 => ("PromiseWireModel", "turns", "I", false)
  | 46 => ("PromiseWireModel", "trace", "J", false)
  | 47 => ("PromiseWireModel", "hand", "I", false)
  | 48 => ("PromiseWireModel", "handAct", "I", false)
  | 49 => ("PromiseWireModel", "handAmount", "I", false)
  | 50 => ("PromiseWireModel", "outKind", "I", false)
  | 51 => ("PromiseWireModel", "outFrom", "I", false)
  | 52 => ("PromiseWireModel", "outTo", "I", false)
  | 53 => ("PromiseWireModel", "outAbout", "I", false)
  | 54 => ("PromiseWireModel", "outThing", "I", false)
  | 55 => ("PromiseWireModel", "outPromise", "I", false)
  | 56 => ("PromiseWireModel", "outFirst", "I", false)
  | 57 => ("PromiseWireModel", "outSecond", "I", false)
  | _ => ("PromiseWireModel", "outBackwards", "Z", false)
def tyX7 : Nat → FieldType := fun k => match k with
  | 0 => .int
  | 1 => .array .int
  | 2 => .array .int
  | 3 => .array .int
  | 4 => .array .int
  | 5 => .array .int
  | 6 => .array .boolean
  | 7 => .array .boolean
  | 8 => .array .int
  | 9 => .int
  | 10 => .array .int
  | 11 => .array .int
  | 12 => .array .int
  | 13 => .array .int
  | 14 => .array .int
  | 15 => .array .int
  | 16 => .array .int
  | 17 => .array .int
  | 18 => .array .int
  | 19 => .array .int
  | 20 => .array .int
  | 21 => .array .int
  | 22 => .array .int
  | 23 => .array .int
  | 24 => .int
  | 25 => .int
  | 26 => .array .int
  | 27 => .array .int
  | 28 => .array .int
  | 29 => .array .boolean
  | 30 => .int
  | 31 => .array .int
  | 32 => .array .int
  | 33 => .array .int
  | 34 => .array .int
  | 35 => .array .int
  | 36 => .array .int
  | 37 => .array .int
  | 38 => .array .int
  | 39 => .array .boolean
  | 40 => .array .boolean
  | 41 => .int
  | 42 => .array .int
  | 43 => .array .int
  | 44 => .array .int
  | 45 => .int
  | 46 => .long
  | 47 => .int
  | 48 => .int
  | 49 => .int
  | 50 => .int
  | 51 => .int
  | 52 => .int
  | 53 => .int
  | 54 => .int
  | 55 => .int
  | 56 => .int
  | 57 => .int
  | _ => .boolean
theorem nmX7 : ∀ a, a < 59 → ∀ b, b < 59 → a ≠ b → (TX7 a).2.1 ≠ (TX7 b).2.1 := by decide +kernel
theorem tyX7_ok : ∀ k, k < 59 → parseFieldDescriptor (TX7 k).2.2.1 = some (tyX7 k) := by decide +kernel
abbrev cX7_init : ByteArray := prog_9_method_1_code
def yX7_init : MethodName := ⟨RX7, "<init>", "()V"⟩
abbrev cX7_in : ByteArray := prog_9_method_3_code
def yX7_in : MethodName := ⟨RX7, "in", "(III)Z"⟩
abbrev cX7_isThing : ByteArray := prog_9_method_4_code
def yX7_isThing : MethodName := ⟨RX7, "isThing", "(I)Z"⟩
abbrev cX7_isPromise : ByteArray := prog_9_method_5_code
def yX7_isPromise : MethodName := ⟨RX7, "isPromise", "(I)Z"⟩
abbrev cX7_comes : ByteArray := prog_9_method_6_code
def yX7_comes : MethodName := ⟨RX7, "comes", "(IIIII)I"⟩
abbrev cX7_thing : ByteArray := prog_9_method_7_code
def yX7_thing : MethodName := ⟨RX7, "thing", "(III)I"⟩
abbrev cX7_guard : ByteArray := prog_9_method_8_code
def yX7_guard : MethodName := ⟨RX7, "guard", "(IIIZ)I"⟩
abbrev cX7_shut : ByteArray := prog_9_method_9_code
def yX7_shut : MethodName := ⟨RX7, "shut", "(IZ)I"⟩
abbrev cX7_back : ByteArray := prog_9_method_10_code
def yX7_back : MethodName := ⟨RX7, "back", "(I)I"⟩
abbrev cX7_about : ByteArray := prog_9_method_11_code
def yX7_about : MethodName := ⟨RX7, "about", "(II)I"⟩
abbrev cX7_posts : ByteArray := prog_9_method_12_code
def yX7_posts : MethodName := ⟨RX7, "posts", "(IIIIIIIIZ)V"⟩
abbrev cX7_sendsWhen : ByteArray := prog_9_method_13_code
def yX7_sendsWhen : MethodName := ⟨RX7, "sendsWhen", "(III)V"⟩
abbrev cX7_postsWhen : ByteArray := prog_9_method_14_code
def yX7_postsWhen : MethodName := ⟨RX7, "postsWhen", "(III)V"⟩
abbrev cX7_postsWhens : ByteArray := prog_9_method_15_code
def yX7_postsWhens : MethodName := ⟨RX7, "postsWhens", "(IIII)V"⟩
abbrev cX7_isToBeDone : ByteArray := prog_9_method_16_code
def yX7_isToBeDone : MethodName := ⟨RX7, "isToBeDone", "(III)V"⟩
abbrev cX7_arrives : ByteArray := prog_9_method_17_code
def yX7_arrives : MethodName := ⟨RX7, "arrives", "(III)V"⟩
abbrev cX7_comesBack : ByteArray := prog_9_method_18_code
def yX7_comesBack : MethodName := ⟨RX7, "comesBack", "(IIIZ)V"⟩
abbrev cX7_sendsAnswer : ByteArray := prog_9_method_19_code
def yX7_sendsAnswer : MethodName := ⟨RX7, "sendsAnswer", "(IIIIZ)V"⟩
abbrev cX7_settles : ByteArray := prog_9_method_20_code
def yX7_settles : MethodName := ⟨RX7, "settles", "(IIII)V"⟩
abbrev cX7_losesMessage : ByteArray := prog_9_method_21_code
def yX7_losesMessage : MethodName := ⟨RX7, "losesMessage", "(II)V"⟩
abbrev cX7_sends : ByteArray := prog_9_method_22_code
def yX7_sends : MethodName := ⟨RX7, "sends", "(IIIII)V"⟩
abbrev cX7_sendsToThing : ByteArray := prog_9_method_23_code
def yX7_sendsToThing : MethodName := ⟨RX7, "sendsToThing", "(III)V"⟩
abbrev cX7_goesOn : ByteArray := prog_9_method_24_code
def yX7_goesOn : MethodName := ⟨RX7, "goesOn", "(IIII)V"⟩
abbrev cX7_firstKept : ByteArray := prog_9_method_25_code
def yX7_firstKept : MethodName := ⟨RX7, "firstKept", "(II)I"⟩
abbrev cX7_doesOne : ByteArray := prog_9_method_26_code
def yX7_doesOne : MethodName := ⟨RX7, "doesOne", "(III)V"⟩
abbrev cX7_doesAll : ByteArray := prog_9_method_27_code
def yX7_doesAll : MethodName := ⟨RX7, "doesAll", "()V"⟩
abbrev cX7_answers : ByteArray := prog_9_method_28_code
def yX7_answers : MethodName := ⟨RX7, "answers", "(III)V"⟩
abbrev cX7_breaks : ByteArray := prog_9_method_29_code
def yX7_breaks : MethodName := ⟨RX7, "breaks", "(II)V"⟩
abbrev cX7_cell : ByteArray := prog_9_method_30_code
def yX7_cell : MethodName := ⟨RX7, "cell", "(I)V"⟩
abbrev cX7_moves : ByteArray := prog_9_method_31_code
def yX7_moves : MethodName := ⟨RX7, "moves", "(I)V"⟩
abbrev cX7_purse : ByteArray := prog_9_method_32_code
def yX7_purse : MethodName := ⟨RX7, "purse", "(I)V"⟩
abbrev cX7_maker : ByteArray := prog_9_method_33_code
def yX7_maker : MethodName := ⟨RX7, "maker", "(I)V"⟩
abbrev cX7_guardHears : ByteArray := prog_9_method_34_code
def yX7_guardHears : MethodName := ⟨RX7, "guardHears", "(I)V"⟩
abbrev cX7_switchHears : ByteArray := prog_9_method_35_code
def yX7_switchHears : MethodName := ⟨RX7, "switchHears", "(I)V"⟩
abbrev cX7_holds : ByteArray := prog_9_method_36_code
def yX7_holds : MethodName := ⟨RX7, "holds", "(I)V"⟩
abbrev cX7_answersAll : ByteArray := prog_9_method_37_code
def yX7_answersAll : MethodName := ⟨RX7, "answersAll", "(II)I"⟩
abbrev cX7_joiner : ByteArray := prog_9_method_38_code
def yX7_joiner : MethodName := ⟨RX7, "joiner", "(I)V"⟩
abbrev cX7_sleeper : ByteArray := prog_9_method_39_code
def yX7_sleeper : MethodName := ⟨RX7, "sleeper", "(I)V"⟩
abbrev cX7_hears : ByteArray := prog_9_method_40_code
def yX7_hears : MethodName := ⟨RX7, "hears", "(I)V"⟩
abbrev cX7_wake : ByteArray := prog_9_method_41_code
def yX7_wake : MethodName := ⟨RX7, "wake", "(II)I"⟩
abbrev cX7_isOf : ByteArray := prog_9_method_42_code
def yX7_isOf : MethodName := ⟨RX7, "isOf", "(II)Z"⟩
abbrev cX7_ask : ByteArray := prog_9_method_43_code
def yX7_ask : MethodName := ⟨RX7, "ask", "(IIIIII)I"⟩
abbrev cX7_stateIn : ByteArray := prog_9_method_44_code
def yX7_stateIn : MethodName := ⟨RX7, "stateIn", "(II)I"⟩
abbrev cX7_valueIn : ByteArray := prog_9_method_45_code
def yX7_valueIn : MethodName := ⟨RX7, "valueIn", "(II)I"⟩
abbrev cX7_when : ByteArray := prog_9_method_46_code
def yX7_when : MethodName := ⟨RX7, "when", "(III)I"⟩
abbrev cX7_state : ByteArray := prog_9_method_47_code
def yX7_state : MethodName := ⟨RX7, "state", "(III)I"⟩
abbrev cX7_waitsFor : ByteArray := prog_9_method_48_code
def yX7_waitsFor : MethodName := ⟨RX7, "waitsFor", "(I)I"⟩
abbrev cX7_promise : ByteArray := prog_9_method_49_code
def yX7_promise : MethodName := ⟨RX7, "promise", "(II)I"⟩
abbrev cX7_firstLetter : ByteArray := prog_9_method_50_code
def yX7_firstLetter : MethodName := ⟨RX7, "firstLetter", "(II)I"⟩
abbrev cX7_takesOut : ByteArray := prog_9_method_51_code
def yX7_takesOut : MethodName := ⟨RX7, "takesOut", "(I)V"⟩
abbrev cX7_comesToThing : ByteArray := prog_9_method_52_code
def yX7_comesToThing : MethodName := ⟨RX7, "comesToThing", "()V"⟩
abbrev cX7_comesToPromise : ByteArray := prog_9_method_53_code
def yX7_comesToPromise : MethodName := ⟨RX7, "comesToPromise", "()V"⟩
abbrev cX7_delivers : ByteArray := prog_9_method_54_code
def yX7_delivers : MethodName := ⟨RX7, "delivers", "(I)I"⟩
abbrev cX7_areHouses : ByteArray := prog_9_method_55_code
def yX7_areHouses : MethodName := ⟨RX7, "areHouses", "(II)Z"⟩
abbrev cX7_deliver : ByteArray := prog_9_method_56_code
def yX7_deliver : MethodName := ⟨RX7, "deliver", "(II)I"⟩
abbrev cX7_flow : ByteArray := prog_9_method_57_code
def yX7_flow : MethodName := ⟨RX7, "flow", "(I)I"⟩
abbrev cX7_losesAll : ByteArray := prog_9_method_58_code
def yX7_losesAll : MethodName := ⟨RX7, "losesAll", "(II)I"⟩
abbrev cX7_cut : ByteArray := prog_9_method_59_code
def yX7_cut : MethodName := ⟨RX7, "cut", "(II)I"⟩
abbrev cX7_again : ByteArray := prog_9_method_60_code
def yX7_again : MethodName := ⟨RX7, "again", "(II)I"⟩
abbrev cX7_wire : ByteArray := prog_9_method_61_code
def yX7_wire : MethodName := ⟨RX7, "wire", "(II)I"⟩
abbrev cX7_letterOf : ByteArray := prog_9_method_62_code
def yX7_letterOf : MethodName := ⟨RX7, "letterOf", "(III)I"⟩
abbrev cX7_letter : ByteArray := prog_9_method_63_code
def yX7_letter : MethodName := ⟨RX7, "letter", "(IIII)I"⟩
abbrev cX7_purses : ByteArray := prog_9_method_64_code
def yX7_purses : MethodName := ⟨RX7, "purses", "()J"⟩
abbrev cX7_countWhere : ByteArray := prog_9_method_65_code
def yX7_countWhere : MethodName := ⟨RX7, "countWhere", "(I)I"⟩
abbrev cX7_count : ByteArray := prog_9_method_66_code
def yX7_count : MethodName := ⟨RX7, "count", "(I)I"⟩
abbrev cX7_trace : ByteArray := prog_9_method_67_code
def yX7_trace : MethodName := ⟨RX7, "trace", "()J"⟩
def RJ9 : String := "java/lang/Math"
def TJ9 : u_T := fun k => match k with
  | _ => ("", "", "", false)
def tyJ9 : Nat → FieldType := fun k => match k with
  | _ => .int
abbrev cJ9_max_7cf53 : ByteArray := prog_10_method_65_code
def yJ9_max_7cf53 : MethodName := ⟨RJ9, "max", "(II)I"⟩
abbrev cJ9_min_7cf53 : ByteArray := prog_10_method_69_code
def yJ9_min_7cf53 : MethodName := ⟨RJ9, "min", "(II)I"⟩
def RL : String := "PromiseWireLaw"
abbrev cL_law : ByteArray := code
def yL_law : MethodName := ⟨RL, "law", "([I)Z"⟩
abbrev vwCl : List vw_C := [(RX0, TX0, 3), (RX1, TX1, 13), (RX2, TX2, 9), (RX3, TX3, 9), (RX4, TX4, 3), (RX5, TX5, 4), (RX6, TX6, 10), (RX7, TX7, 59)]
end
section
theorem dX0_init_0 : decode cX0_init 0 = .ok (.aload_n 0, 1) := by decide +kernel
theorem dX0_init_1 : decode cX0_init 1 = .ok (.invokespecial 1, 3) := by decide +kernel
theorem dX0_init_4 : decode cX0_init 4 = .ok (.return_, 1) := by decide +kernel
theorem dX0_add_0 : decode cX0_add 0 = .ok (.aload_n 1, 1) := by decide +kernel
theorem dX0_add_1 : decode cX0_add 1 = .ok (.aconst_null, 1) := by decide +kernel
theorem dX0_add_2 : decode cX0_add 2 = .ok (.putfield 7, 3) := by decide +kernel
theorem dX0_add_5 : decode cX0_add 5 = .ok (.aload_n 0, 1) := by decide +kernel
theorem dX0_add_6 : decode cX0_add 6 = .ok (.getfield 13, 3) := by decide +kernel
theorem dX0_add_9 : decode cX0_add 9 = .ok (.ifnonnull 11, 3) := by decide +kernel
theorem dX0_add_12 : decode cX0_add 12 = .ok (.aload_n 0, 1) := by decide +kernel
theorem dX0_add_13 : decode cX0_add 13 = .ok (.aload_n 1, 1) := by decide +kernel
theorem dX0_add_14 : decode cX0_add 14 = .ok (.putfield 18, 3) := by decide +kernel
theorem dX0_add_17 : decode cX0_add 17 = .ok (.goto 11, 3) := by decide +kernel
theorem dX0_add_20 : decode cX0_add 20 = .ok (.aload_n 0, 1) := by decide +kernel
theorem dX0_add_21 : decode cX0_add 21 = .ok (.getfield 13, 3) := by decide +kernel
theorem dX0_add_24 : decode cX0_add 24 = .ok (.aload_n 1, 1) := by decide +kernel
theorem dX0_add_25 : decode cX0_add 25 = .ok (.putfield 7, 3) := by decide +kernel
theorem dX0_add_28 : decode cX0_add 28 = .ok (.aload_n 0, 1) := by decide +kernel
theorem dX0_add_29 : decode cX0_add 29 = .ok (.aload_n 1, 1) := by decide +kernel
theorem dX0_add_30 : decode cX0_add 30 = .ok (.putfield 13, 3) := by decide +kernel
theorem dX0_add_33 : decode cX0_add 33 = .ok (.aload_n 0, 1) := by decide +kernel
theorem dX0_add_34 : decode cX0_add 34 = .ok (.dup, 1) := by decide +kernel
theorem dX0_add_35 : decode cX0_add 35 = .ok (.getfield 21, 3) := by decide +kernel
theorem dX0_add_38 : decode cX0_add 38 = .ok (.iconst 1, 1) := by decide +kernel
theorem dX0_add_39 : decode cX0_add 39 = .ok (.iadd, 1) := by decide +kernel
theorem dX0_add_40 : decode cX0_add 40 = .ok (.putfield 21, 3) := by decide +kernel
theorem dX0_add_43 : decode cX0_add 43 = .ok (.return_, 1) := by decide +kernel
theorem dX0_take_0 : decode cX0_take 0 = .ok (.aload_n 0, 1) := by decide +kernel
theorem dX0_take_1 : decode cX0_take 1 = .ok (.getfield 18, 3) := by decide +kernel
theorem dX0_take_4 : decode cX0_take 4 = .ok (.astore_n 1, 1) := by decide +kernel
theorem dX0_take_5 : decode cX0_take 5 = .ok (.aload_n 1, 1) := by decide +kernel
theorem dX0_take_6 : decode cX0_take 6 = .ok (.ifnonnull 5, 3) := by decide +kernel
theorem dX0_take_9 : decode cX0_take 9 = .ok (.aconst_null, 1) := by decide +kernel
theorem dX0_take_10 : decode cX0_take 10 = .ok (.areturn, 1) := by decide +kernel
theorem dX0_take_11 : decode cX0_take 11 = .ok (.aload_n 0, 1) := by decide +kernel
theorem dX0_take_12 : decode cX0_take 12 = .ok (.aload_n 1, 1) := by decide +kernel
theorem dX0_take_13 : decode cX0_take 13 = .ok (.getfield 7, 3) := by decide +kernel
theorem dX0_take_16 : decode cX0_take 16 = .ok (.putfield 18, 3) := by decide +kernel
theorem dX0_take_19 : decode cX0_take 19 = .ok (.aload_n 0, 1) := by decide +kernel
theorem dX0_take_20 : decode cX0_take 20 = .ok (.getfield 18, 3) := by decide +kernel
theorem dX0_take_23 : decode cX0_take 23 = .ok (.ifnonnull 8, 3) := by decide +kernel
theorem dX0_take_26 : decode cX0_take 26 = .ok (.aload_n 0, 1) := by decide +kernel
theorem dX0_take_27 : decode cX0_take 27 = .ok (.aconst_null, 1) := by decide +kernel
theorem dX0_take_28 : decode cX0_take 28 = .ok (.putfield 13, 3) := by decide +kernel
theorem dX0_take_31 : decode cX0_take 31 = .ok (.aload_n 1, 1) := by decide +kernel
theorem dX0_take_32 : decode cX0_take 32 = .ok (.aconst_null, 1) := by decide +kernel
theorem dX0_take_33 : decode cX0_take 33 = .ok (.putfield 7, 3) := by decide +kernel
theorem dX0_take_36 : decode cX0_take 36 = .ok (.aload_n 0, 1) := by decide +kernel
theorem dX0_take_37 : decode cX0_take 37 = .ok (.dup, 1) := by decide +kernel
theorem dX0_take_38 : decode cX0_take 38 = .ok (.getfield 21, 3) := by decide +kernel
theorem dX0_take_41 : decode cX0_take 41 = .ok (.iconst 1, 1) := by decide +kernel
theorem dX0_take_42 : decode cX0_take 42 = .ok (.isub, 1) := by decide +kernel
theorem dX0_take_43 : decode cX0_take 43 = .ok (.putfield 21, 3) := by decide +kernel
theorem dX0_take_46 : decode cX0_take 46 = .ok (.aload_n 1, 1) := by decide +kernel
theorem dX0_take_47 : decode cX0_take 47 = .ok (.areturn, 1) := by decide +kernel
theorem dX0_at_0 : decode cX0_at 0 = .ok (.iload_n 1, 1) := by decide +kernel
theorem dX0_at_1 : decode cX0_at 1 = .ok (.ifCond .lt 11, 3) := by decide +kernel
theorem dX0_at_4 : decode cX0_at 4 = .ok (.iload_n 1, 1) := by decide +kernel
theorem dX0_at_5 : decode cX0_at 5 = .ok (.aload_n 0, 1) := by decide +kernel
theorem dX0_at_6 : decode cX0_at 6 = .ok (.getfield 21, 3) := by decide +kernel
theorem dX0_at_9 : decode cX0_at 9 = .ok (.if_icmp .lt 5, 3) := by decide +kernel
theorem dX0_at_12 : decode cX0_at 12 = .ok (.aconst_null, 1) := by decide +kernel
theorem dX0_at_13 : decode cX0_at 13 = .ok (.areturn, 1) := by decide +kernel
theorem dX0_at_14 : decode cX0_at 14 = .ok (.aload_n 0, 1) := by decide +kernel
theorem dX0_at_15 : decode cX0_at 15 = .ok (.getfield 18, 3) := by decide +kernel
theorem dX0_at_18 : decode cX0_at 18 = .ok (.astore_n 2, 1) := by decide +kernel
theorem dX0_at_19 : decode cX0_at 19 = .ok (.iconst 0, 1) := by decide +kernel
theorem dX0_at_20 : decode cX0_at 20 = .ok (.istore_n 3, 1) := by decide +kernel
theorem dX0_at_21 : decode cX0_at 21 = .ok (.iload_n 3, 1) := by decide +kernel
theorem dX0_at_22 : decode cX0_at 22 = .ok (.iload_n 1, 1) := by decide +kernel
theorem dX0_at_23 : decode cX0_at 23 = .ok (.if_icmp .ge 18, 3) := by decide +kernel
theorem dX0_at_26 : decode cX0_at 26 = .ok (.aload_n 2, 1) := by decide +kernel
theorem dX0_at_27 : decode cX0_at 27 = .ok (.ifnull 14, 3) := by decide +kernel
theorem dX0_at_30 : decode cX0_at 30 = .ok (.aload_n 2, 1) := by decide +kernel
theorem dX0_at_31 : decode cX0_at 31 = .ok (.getfield 7, 3) := by decide +kernel
theorem dX0_at_34 : decode cX0_at 34 = .ok (.astore_n 2, 1) := by decide +kernel
theorem dX0_at_35 : decode cX0_at 35 = .ok (.iinc 3 1, 3) := by decide +kernel
theorem dX0_at_38 : decode cX0_at 38 = .ok (.goto (-17), 3) := by decide +kernel
theorem dX0_at_41 : decode cX0_at 41 = .ok (.aload_n 2, 1) := by decide +kernel
theorem dX0_at_42 : decode cX0_at 42 = .ok (.areturn, 1) := by decide +kernel
theorem dX0_sumOfNs_0 : decode cX0_sumOfNs 0 = .ok (.iconst 0, 1) := by decide +kernel
theorem dX0_sumOfNs_1 : decode cX0_sumOfNs 1 = .ok (.istore_n 1, 1) := by decide +kernel
theorem dX0_sumOfNs_2 : decode cX0_sumOfNs 2 = .ok (.aload_n 0, 1) := by decide +kernel
theorem dX0_sumOfNs_3 : decode cX0_sumOfNs 3 = .ok (.getfield 18, 3) := by decide +kernel
theorem dX0_sumOfNs_6 : decode cX0_sumOfNs 6 = .ok (.astore_n 2, 1) := by decide +kernel
theorem dX0_sumOfNs_7 : decode cX0_sumOfNs 7 = .ok (.iconst 0, 1) := by decide +kernel
theorem dX0_sumOfNs_8 : decode cX0_sumOfNs 8 = .ok (.istore_n 3, 1) := by decide +kernel
theorem dX0_sumOfNs_9 : decode cX0_sumOfNs 9 = .ok (.iload_n 3, 1) := by decide +kernel
theorem dX0_sumOfNs_10 : decode cX0_sumOfNs 10 = .ok (.aload_n 0, 1) := by decide +kernel
theorem dX0_sumOfNs_11 : decode cX0_sumOfNs 11 = .ok (.getfield 21, 3) := by decide +kernel
theorem dX0_sumOfNs_14 : decode cX0_sumOfNs 14 = .ok (.if_icmp .ge 25, 3) := by decide +kernel
theorem dX0_sumOfNs_17 : decode cX0_sumOfNs 17 = .ok (.aload_n 2, 1) := by decide +kernel
theorem dX0_sumOfNs_18 : decode cX0_sumOfNs 18 = .ok (.ifnull 21, 3) := by decide +kernel
theorem dX0_sumOfNs_21 : decode cX0_sumOfNs 21 = .ok (.iload_n 1, 1) := by decide +kernel
theorem dX0_sumOfNs_22 : decode cX0_sumOfNs 22 = .ok (.aload_n 2, 1) := by decide +kernel
theorem dX0_sumOfNs_23 : decode cX0_sumOfNs 23 = .ok (.getfield 25, 3) := by decide +kernel
theorem dX0_sumOfNs_26 : decode cX0_sumOfNs 26 = .ok (.iadd, 1) := by decide +kernel
theorem dX0_sumOfNs_27 : decode cX0_sumOfNs 27 = .ok (.istore_n 1, 1) := by decide +kernel
theorem dX0_sumOfNs_28 : decode cX0_sumOfNs 28 = .ok (.aload_n 2, 1) := by decide +kernel
theorem dX0_sumOfNs_29 : decode cX0_sumOfNs 29 = .ok (.getfield 7, 3) := by decide +kernel
theorem dX0_sumOfNs_32 : decode cX0_sumOfNs 32 = .ok (.astore_n 2, 1) := by decide +kernel
theorem dX0_sumOfNs_33 : decode cX0_sumOfNs 33 = .ok (.iinc 3 1, 3) := by decide +kernel
theorem dX0_sumOfNs_36 : decode cX0_sumOfNs 36 = .ok (.goto (-27), 3) := by decide +kernel
theorem dX0_sumOfNs_39 : decode cX0_sumOfNs 39 = .ok (.iload_n 1, 1) := by decide +kernel
theorem dX0_sumOfNs_40 : decode cX0_sumOfNs 40 = .ok (.ireturn, 1) := by decide +kernel
theorem dX1_init_0 : decode cX1_init 0 = .ok (.aload_n 0, 1) := by decide +kernel
theorem dX1_init_1 : decode cX1_init 1 = .ok (.invokespecial 3, 3) := by decide +kernel
theorem dX1_init_4 : decode cX1_init 4 = .ok (.aload_n 0, 1) := by decide +kernel
theorem dX1_init_5 : decode cX1_init 5 = .ok (.iload_n 1, 1) := by decide +kernel
theorem dX1_init_6 : decode cX1_init 6 = .ok (.putfield 9, 3) := by decide +kernel
theorem dX1_init_9 : decode cX1_init 9 = .ok (.aload_n 0, 1) := by decide +kernel
theorem dX1_init_10 : decode cX1_init 10 = .ok (.iload_n 2, 1) := by decide +kernel
theorem dX1_init_11 : decode cX1_init 11 = .ok (.putfield 15, 3) := by decide +kernel
theorem dX1_init_14 : decode cX1_init 14 = .ok (.aload_n 0, 1) := by decide +kernel
theorem dX1_init_15 : decode cX1_init 15 = .ok (.aload_n 3, 1) := by decide +kernel
theorem dX1_init_16 : decode cX1_init 16 = .ok (.putfield 18, 3) := by decide +kernel
theorem dX1_init_19 : decode cX1_init 19 = .ok (.return_, 1) := by decide +kernel
theorem dX1_answer_0 : decode cX1_answer 0 = .ok (.aload_n 0, 1) := by decide +kernel
theorem dX1_answer_1 : decode cX1_answer 1 = .ok (.iload_n 1, 1) := by decide +kernel
theorem dX1_answer_2 : decode cX1_answer 2 = .ok (.putfield 22, 3) := by decide +kernel
theorem dX1_answer_5 : decode cX1_answer 5 = .ok (.aload_n 0, 1) := by decide +kernel
theorem dX1_answer_6 : decode cX1_answer 6 = .ok (.iload_n 2, 1) := by decide +kernel
theorem dX1_answer_7 : decode cX1_answer 7 = .ok (.putfield 25, 3) := by decide +kernel
theorem dX1_answer_10 : decode cX1_answer 10 = .ok (.iconst 0, 1) := by decide +kernel
theorem dX1_answer_11 : decode cX1_answer 11 = .ok (.ireturn, 1) := by decide +kernel
theorem dX1_breakByCut_0 : decode cX1_breakByCut 0 = .ok (.aload_n 0, 1) := by decide +kernel
theorem dX1_breakByCut_1 : decode cX1_breakByCut 1 = .ok (.getfield 28, 3) := by decide +kernel
theorem dX1_breakByCut_4 : decode cX1_breakByCut 4 = .ok (.ifnull 24, 3) := by decide +kernel
theorem dX1_breakByCut_7 : decode cX1_breakByCut 7 = .ok (.aload_n 0, 1) := by decide +kernel
theorem dX1_breakByCut_8 : decode cX1_breakByCut 8 = .ok (.getfield 28, 3) := by decide +kernel
theorem dX1_breakByCut_11 : decode cX1_breakByCut 11 = .ok (.dup, 1) := by decide +kernel
theorem dX1_breakByCut_12 : decode cX1_breakByCut 12 = .ok (.getfield 31, 3) := by decide +kernel
theorem dX1_breakByCut_15 : decode cX1_breakByCut 15 = .ok (.aload_n 0, 1) := by decide +kernel
theorem dX1_breakByCut_16 : decode cX1_breakByCut 16 = .ok (.getfield 15, 3) := by decide +kernel
theorem dX1_breakByCut_19 : decode cX1_breakByCut 19 = .ok (.iadd, 1) := by decide +kernel
theorem dX1_breakByCut_20 : decode cX1_breakByCut 20 = .ok (.putfield 31, 3) := by decide +kernel
theorem dX1_breakByCut_23 : decode cX1_breakByCut 23 = .ok (.aload_n 0, 1) := by decide +kernel
theorem dX1_breakByCut_24 : decode cX1_breakByCut 24 = .ok (.aconst_null, 1) := by decide +kernel
theorem dX1_breakByCut_25 : decode cX1_breakByCut 25 = .ok (.putfield 28, 3) := by decide +kernel
theorem dX1_breakByCut_28 : decode cX1_breakByCut 28 = .ok (.aload_n 0, 1) := by decide +kernel
theorem dX1_breakByCut_29 : decode cX1_breakByCut 29 = .ok (.iconst 3, 1) := by decide +kernel
theorem dX1_breakByCut_30 : decode cX1_breakByCut 30 = .ok (.iconst 1, 1) := by decide +kernel
theorem dX1_breakByCut_31 : decode cX1_breakByCut 31 = .ok (.invokevirtual 36, 3) := by decide +kernel
theorem dX1_breakByCut_34 : decode cX1_breakByCut 34 = .ok (.pop, 1) := by decide +kernel
theorem dX1_breakByCut_35 : decode cX1_breakByCut 35 = .ok (.return_, 1) := by decide +kernel
theorem dX1_destination_0 : decode cX1_destination 0 = .ok (.aload_n 0, 1) := by decide +kernel
theorem dX1_destination_1 : decode cX1_destination 1 = .ok (.getfield 40, 3) := by decide +kernel
theorem dX1_destination_4 : decode cX1_destination 4 = .ok (.ifnull 11, 3) := by decide +kernel
theorem dX1_destination_7 : decode cX1_destination 7 = .ok (.aload_n 0, 1) := by decide +kernel
theorem dX1_destination_8 : decode cX1_destination 8 = .ok (.getfield 40, 3) := by decide +kernel
theorem dX1_destination_11 : decode cX1_destination 11 = .ok (.getfield 43, 3) := by decide +kernel
theorem dX1_destination_14 : decode cX1_destination 14 = .ok (.ireturn, 1) := by decide +kernel
theorem dX1_destination_15 : decode cX1_destination 15 = .ok (.aload_n 0, 1) := by decide +kernel
theorem dX1_destination_16 : decode cX1_destination 16 = .ok (.getfield 46, 3) := by decide +kernel
theorem dX1_destination_19 : decode cX1_destination 19 = .ok (.ifnonnull 8, 3) := by decide +kernel
theorem dX1_destination_22 : decode cX1_destination 22 = .ok (.bipush (-9), 2) := by decide +kernel
theorem dX1_destination_24 : decode cX1_destination 24 = .ok (.goto 10, 3) := by decide +kernel
theorem dX1_destination_27 : decode cX1_destination 27 = .ok (.aload_n 0, 1) := by decide +kernel
theorem dX1_destination_28 : decode cX1_destination 28 = .ok (.getfield 46, 3) := by decide +kernel
theorem dX1_destination_31 : decode cX1_destination 31 = .ok (.getfield 50, 3) := by decide +kernel
theorem dX1_destination_34 : decode cX1_destination 34 = .ok (.ireturn, 1) := by decide +kernel
theorem dX1_whatLetter_0 : decode cX1_whatLetter 0 = .ok (.aload_n 0, 1) := by decide +kernel
theorem dX1_whatLetter_1 : decode cX1_whatLetter 1 = .ok (.getfield 55, 3) := by decide +kernel
theorem dX1_whatLetter_4 : decode cX1_whatLetter 4 = .ok (.ifCond .eq 5, 3) := by decide +kernel
theorem dX1_whatLetter_7 : decode cX1_whatLetter 7 = .ok (.iconst 1, 1) := by decide +kernel
theorem dX1_whatLetter_8 : decode cX1_whatLetter 8 = .ok (.ireturn, 1) := by decide +kernel
theorem dX1_whatLetter_9 : decode cX1_whatLetter 9 = .ok (.aload_n 0, 1) := by decide +kernel
theorem dX1_whatLetter_10 : decode cX1_whatLetter 10 = .ok (.getfield 59, 3) := by decide +kernel
theorem dX1_whatLetter_13 : decode cX1_whatLetter 13 = .ok (.ifnonnull 7, 3) := by decide +kernel
theorem dX1_whatLetter_16 : decode cX1_whatLetter 16 = .ok (.iconst 2, 1) := by decide +kernel
theorem dX1_whatLetter_17 : decode cX1_whatLetter 17 = .ok (.goto 4, 3) := by decide +kernel
theorem dX1_whatLetter_20 : decode cX1_whatLetter 20 = .ok (.iconst 0, 1) := by decide +kernel
theorem dX1_whatLetter_21 : decode cX1_whatLetter 21 = .ok (.ireturn, 1) := by decide +kernel
theorem dX2_init_0 : decode cX2_init 0 = .ok (.aload_n 0, 1) := by decide +kernel
theorem dX2_init_1 : decode cX2_init 1 = .ok (.invokespecial 1, 3) := by decide +kernel
theorem dX2_init_4 : decode cX2_init 4 = .ok (.aload_n 0, 1) := by decide +kernel
theorem dX2_init_5 : decode cX2_init 5 = .ok (.new 7, 3) := by decide +kernel
theorem dX2_init_8 : decode cX2_init 8 = .ok (.dup, 1) := by decide +kernel
theorem dX2_init_9 : decode cX2_init 9 = .ok (.invokespecial 9, 3) := by decide +kernel
theorem dX2_init_12 : decode cX2_init 12 = .ok (.putfield 10, 3) := by decide +kernel
theorem dX2_init_15 : decode cX2_init 15 = .ok (.aload_n 0, 1) := by decide +kernel
theorem dX2_init_16 : decode cX2_init 16 = .ok (.iload_n 1, 1) := by decide +kernel
theorem dX2_init_17 : decode cX2_init 17 = .ok (.putfield 16, 3) := by decide +kernel
theorem dX2_init_20 : decode cX2_init 20 = .ok (.aload_n 0, 1) := by decide +kernel
theorem dX2_init_21 : decode cX2_init 21 = .ok (.iload_n 2, 1) := by decide +kernel
theorem dX2_init_22 : decode cX2_init 22 = .ok (.putfield 20, 3) := by decide +kernel
theorem dX2_init_25 : decode cX2_init 25 = .ok (.aload_n 0, 1) := by decide +kernel
theorem dX2_init_26 : decode cX2_init 26 = .ok (.iload_n 3, 1) := by decide +kernel
theorem dX2_init_27 : decode cX2_init 27 = .ok (.putfield 23, 3) := by decide +kernel
theorem dX2_init_30 : decode cX2_init 30 = .ok (.aload_n 0, 1) := by decide +kernel
theorem dX2_init_31 : decode cX2_init 31 = .ok (.aload 4, 2) := by decide +kernel
theorem dX2_init_33 : decode cX2_init 33 = .ok (.putfield 26, 3) := by decide +kernel
theorem dX2_init_36 : decode cX2_init 36 = .ok (.return_, 1) := by decide +kernel
theorem dX2_isKnownIn_0 : decode cX2_isKnownIn 0 = .ok (.iload_n 1, 1) := by decide +kernel
theorem dX2_isKnownIn_1 : decode cX2_isKnownIn 1 = .ok (.aload_n 0, 1) := by decide +kernel
theorem dX2_isKnownIn_2 : decode cX2_isKnownIn 2 = .ok (.getfield 20, 3) := by decide +kernel
theorem dX2_isKnownIn_5 : decode cX2_isKnownIn 5 = .ok (.if_icmp .eq 11, 3) := by decide +kernel
theorem dX2_isKnownIn_8 : decode cX2_isKnownIn 8 = .ok (.iload_n 1, 1) := by decide +kernel
theorem dX2_isKnownIn_9 : decode cX2_isKnownIn 9 = .ok (.aload_n 0, 1) := by decide +kernel
theorem dX2_isKnownIn_10 : decode cX2_isKnownIn 10 = .ok (.getfield 23, 3) := by decide +kernel
theorem dX2_isKnownIn_13 : decode cX2_isKnownIn 13 = .ok (.if_icmp .ne 7, 3) := by decide +kernel
theorem dX2_isKnownIn_16 : decode cX2_isKnownIn 16 = .ok (.iconst 1, 1) := by decide +kernel
theorem dX2_isKnownIn_17 : decode cX2_isKnownIn 17 = .ok (.goto 4, 3) := by decide +kernel
theorem dX2_isKnownIn_20 : decode cX2_isKnownIn 20 = .ok (.iconst 0, 1) := by decide +kernel
theorem dX2_isKnownIn_21 : decode cX2_isKnownIn 21 = .ok (.ireturn, 1) := by decide +kernel
theorem dX2_howIn_0 : decode cX2_howIn 0 = .ok (.iload_n 1, 1) := by decide +kernel
theorem dX2_howIn_1 : decode cX2_howIn 1 = .ok (.aload_n 0, 1) := by decide +kernel
theorem dX2_howIn_2 : decode cX2_howIn 2 = .ok (.getfield 23, 3) := by decide +kernel
theorem dX2_howIn_5 : decode cX2_howIn 5 = .ok (.if_icmp .ne 10, 3) := by decide +kernel
theorem dX2_howIn_8 : decode cX2_howIn 8 = .ok (.aload_n 0, 1) := by decide +kernel
theorem dX2_howIn_9 : decode cX2_howIn 9 = .ok (.getfield 30, 3) := by decide +kernel
theorem dX2_howIn_12 : decode cX2_howIn 12 = .ok (.goto 7, 3) := by decide +kernel
theorem dX2_howIn_15 : decode cX2_howIn 15 = .ok (.aload_n 0, 1) := by decide +kernel
theorem dX2_howIn_16 : decode cX2_howIn 16 = .ok (.getfield 33, 3) := by decide +kernel
theorem dX2_howIn_19 : decode cX2_howIn 19 = .ok (.ireturn, 1) := by decide +kernel
theorem dX2_valueIn_0 : decode cX2_valueIn 0 = .ok (.iload_n 1, 1) := by decide +kernel
theorem dX2_valueIn_1 : decode cX2_valueIn 1 = .ok (.aload_n 0, 1) := by decide +kernel
theorem dX2_valueIn_2 : decode cX2_valueIn 2 = .ok (.getfield 23, 3) := by decide +kernel
theorem dX2_valueIn_5 : decode cX2_valueIn 5 = .ok (.if_icmp .ne 10, 3) := by decide +kernel
theorem dX2_valueIn_8 : decode cX2_valueIn 8 = .ok (.aload_n 0, 1) := by decide +kernel
theorem dX2_valueIn_9 : decode cX2_valueIn 9 = .ok (.getfield 36, 3) := by decide +kernel
theorem dX2_valueIn_12 : decode cX2_valueIn 12 = .ok (.goto 7, 3) := by decide +kernel
theorem dX2_valueIn_15 : decode cX2_valueIn 15 = .ok (.aload_n 0, 1) := by decide +kernel
theorem dX2_valueIn_16 : decode cX2_valueIn 16 = .ok (.getfield 39, 3) := by decide +kernel
theorem dX2_valueIn_19 : decode cX2_valueIn 19 = .ok (.ireturn, 1) := by decide +kernel
theorem dX3_init_0 : decode cX3_init 0 = .ok (.aload_n 0, 1) := by decide +kernel
theorem dX3_init_1 : decode cX3_init 1 = .ok (.invokespecial 1, 3) := by decide +kernel
theorem dX3_init_4 : decode cX3_init 4 = .ok (.aload_n 0, 1) := by decide +kernel
theorem dX3_init_5 : decode cX3_init 5 = .ok (.new 7, 3) := by decide +kernel
theorem dX3_init_8 : decode cX3_init 8 = .ok (.dup, 1) := by decide +kernel
theorem dX3_init_9 : decode cX3_init 9 = .ok (.invokespecial 9, 3) := by decide +kernel
theorem dX3_init_12 : decode cX3_init 12 = .ok (.putfield 10, 3) := by decide +kernel
theorem dX3_init_15 : decode cX3_init 15 = .ok (.aload_n 0, 1) := by decide +kernel
theorem dX3_init_16 : decode cX3_init 16 = .ok (.iload_n 1, 1) := by decide +kernel
theorem dX3_init_17 : decode cX3_init 17 = .ok (.putfield 16, 3) := by decide +kernel
theorem dX3_init_20 : decode cX3_init 20 = .ok (.aload_n 0, 1) := by decide +kernel
theorem dX3_init_21 : decode cX3_init 21 = .ok (.iload_n 2, 1) := by decide +kernel
theorem dX3_init_22 : decode cX3_init 22 = .ok (.putfield 20, 3) := by decide +kernel
theorem dX3_init_25 : decode cX3_init 25 = .ok (.aload_n 0, 1) := by decide +kernel
theorem dX3_init_26 : decode cX3_init 26 = .ok (.iload_n 3, 1) := by decide +kernel
theorem dX3_init_27 : decode cX3_init 27 = .ok (.putfield 23, 3) := by decide +kernel
theorem dX3_init_30 : decode cX3_init 30 = .ok (.aload_n 0, 1) := by decide +kernel
theorem dX3_init_31 : decode cX3_init 31 = .ok (.iload 4, 2) := by decide +kernel
theorem dX3_init_33 : decode cX3_init 33 = .ok (.putfield 26, 3) := by decide +kernel
theorem dX3_init_36 : decode cX3_init 36 = .ok (.aload_n 0, 1) := by decide +kernel
theorem dX3_init_37 : decode cX3_init 37 = .ok (.aload 5, 2) := by decide +kernel
theorem dX3_init_39 : decode cX3_init 39 = .ok (.putfield 29, 3) := by decide +kernel
theorem dX3_init_42 : decode cX3_init 42 = .ok (.aload_n 0, 1) := by decide +kernel
theorem dX3_init_43 : decode cX3_init 43 = .ok (.iload 6, 2) := by decide +kernel
theorem dX3_init_45 : decode cX3_init 45 = .ok (.putfield 33, 3) := by decide +kernel
theorem dX3_init_48 : decode cX3_init 48 = .ok (.return_, 1) := by decide +kernel
theorem dX4_init_0 : decode cX4_init 0 = .ok (.aload_n 0, 1) := by decide +kernel
theorem dX4_init_1 : decode cX4_init 1 = .ok (.invokespecial 1, 3) := by decide +kernel
theorem dX4_init_4 : decode cX4_init 4 = .ok (.aload_n 0, 1) := by decide +kernel
theorem dX4_init_5 : decode cX4_init 5 = .ok (.aload_n 1, 1) := by decide +kernel
theorem dX4_init_6 : decode cX4_init 6 = .ok (.putfield 7, 3) := by decide +kernel
theorem dX4_init_9 : decode cX4_init 9 = .ok (.aload_n 0, 1) := by decide +kernel
theorem dX4_init_10 : decode cX4_init 10 = .ok (.iload_n 2, 1) := by decide +kernel
theorem dX4_init_11 : decode cX4_init 11 = .ok (.putfield 13, 3) := by decide +kernel
theorem dX4_init_14 : decode cX4_init 14 = .ok (.aload_n 0, 1) := by decide +kernel
theorem dX4_init_15 : decode cX4_init 15 = .ok (.aload_n 3, 1) := by decide +kernel
theorem dX4_init_16 : decode cX4_init 16 = .ok (.putfield 17, 3) := by decide +kernel
theorem dX4_init_19 : decode cX4_init 19 = .ok (.return_, 1) := by decide +kernel
theorem dX5_init_0 : decode cX5_init 0 = .ok (.aload_n 0, 1) := by decide +kernel
theorem dX5_init_1 : decode cX5_init 1 = .ok (.invokespecial 1, 3) := by decide +kernel
theorem dX5_init_4 : decode cX5_init 4 = .ok (.aload_n 0, 1) := by decide +kernel
theorem dX5_init_5 : decode cX5_init 5 = .ok (.new 7, 3) := by decide +kernel
theorem dX5_init_8 : decode cX5_init 8 = .ok (.dup, 1) := by decide +kernel
theorem dX5_init_9 : decode cX5_init 9 = .ok (.invokespecial 9, 3) := by decide +kernel
theorem dX5_init_12 : decode cX5_init 12 = .ok (.putfield 10, 3) := by decide +kernel
theorem dX5_init_15 : decode cX5_init 15 = .ok (.aload_n 0, 1) := by decide +kernel
theorem dX5_init_16 : decode cX5_init 16 = .ok (.iload_n 1, 1) := by decide +kernel
theorem dX5_init_17 : decode cX5_init 17 = .ok (.putfield 16, 3) := by decide +kernel
theorem dX5_init_20 : decode cX5_init 20 = .ok (.aload_n 0, 1) := by decide +kernel
theorem dX5_init_21 : decode cX5_init 21 = .ok (.iload_n 2, 1) := by decide +kernel
theorem dX5_init_22 : decode cX5_init 22 = .ok (.putfield 20, 3) := by decide +kernel
theorem dX5_init_25 : decode cX5_init 25 = .ok (.return_, 1) := by decide +kernel
theorem dJ9_max_7cf53_0 : decode cJ9_max_7cf53 0 = .ok (.iload_n 0, 1) := by decide +kernel
theorem dJ9_max_7cf53_1 : decode cJ9_max_7cf53 1 = .ok (.iload_n 1, 1) := by decide +kernel
theorem dJ9_max_7cf53_2 : decode cJ9_max_7cf53 2 = .ok (.if_icmp .lt 7, 3) := by decide +kernel
theorem dJ9_max_7cf53_5 : decode cJ9_max_7cf53 5 = .ok (.iload_n 0, 1) := by decide +kernel
theorem dJ9_max_7cf53_6 : decode cJ9_max_7cf53 6 = .ok (.goto 4, 3) := by decide +kernel
theorem dJ9_max_7cf53_9 : decode cJ9_max_7cf53 9 = .ok (.iload_n 1, 1) := by decide +kernel
theorem dJ9_max_7cf53_10 : decode cJ9_max_7cf53 10 = .ok (.ireturn, 1) := by decide +kernel
theorem dJ9_min_7cf53_0 : decode cJ9_min_7cf53 0 = .ok (.iload_n 0, 1) := by decide +kernel
theorem dJ9_min_7cf53_1 : decode cJ9_min_7cf53 1 = .ok (.iload_n 1, 1) := by decide +kernel
theorem dJ9_min_7cf53_2 : decode cJ9_min_7cf53 2 = .ok (.if_icmp .gt 7, 3) := by decide +kernel
theorem dJ9_min_7cf53_5 : decode cJ9_min_7cf53 5 = .ok (.iload_n 0, 1) := by decide +kernel
theorem dJ9_min_7cf53_6 : decode cJ9_min_7cf53 6 = .ok (.goto 4, 3) := by decide +kernel
theorem dJ9_min_7cf53_9 : decode cJ9_min_7cf53 9 = .ok (.iload_n 1, 1) := by decide +kernel
theorem dJ9_min_7cf53_10 : decode cJ9_min_7cf53 10 = .ok (.ireturn, 1) := by decide +kernel
end
section
theorem dX6_init_0 : decode cX6_init 0 = .ok (.aload_n 0, 1) := by decide +kernel
theorem dX6_init_1 : decode cX6_init 1 = .ok (.invokespecial 1, 3) := by decide +kernel
theorem dX6_init_4 : decode cX6_init 4 = .ok (.aload_n 0, 1) := by decide +kernel
theorem dX6_init_5 : decode cX6_init 5 = .ok (.bipush 40, 2) := by decide +kernel
theorem dX6_init_7 : decode cX6_init 7 = .ok (.anewarray 9, 3) := by decide +kernel
theorem dX6_init_10 : decode cX6_init 10 = .ok (.putfield 11, 3) := by decide +kernel
theorem dX6_init_13 : decode cX6_init 13 = .ok (.aload_n 0, 1) := by decide +kernel
theorem dX6_init_14 : decode cX6_init 14 = .ok (.bipush 100, 2) := by decide +kernel
theorem dX6_init_16 : decode cX6_init 16 = .ok (.anewarray 15, 3) := by decide +kernel
theorem dX6_init_19 : decode cX6_init 19 = .ok (.putfield 17, 3) := by decide +kernel
theorem dX6_init_22 : decode cX6_init 22 = .ok (.aload_n 0, 1) := by decide +kernel
theorem dX6_init_23 : decode cX6_init 23 = .ok (.bipush 40, 2) := by decide +kernel
theorem dX6_init_25 : decode cX6_init 25 = .ok (.anewarray 21, 3) := by decide +kernel
theorem dX6_init_28 : decode cX6_init 28 = .ok (.putfield 23, 3) := by decide +kernel
theorem dX6_init_31 : decode cX6_init 31 = .ok (.aload_n 0, 1) := by decide +kernel
theorem dX6_init_32 : decode cX6_init 32 = .ok (.bipush 16, 2) := by decide +kernel
theorem dX6_init_34 : decode cX6_init 34 = .ok (.anewarray 27, 3) := by decide +kernel
theorem dX6_init_37 : decode cX6_init 37 = .ok (.putfield 29, 3) := by decide +kernel
theorem dX6_init_40 : decode cX6_init 40 = .ok (.aload_n 0, 1) := by decide +kernel
theorem dX6_init_41 : decode cX6_init 41 = .ok (.new 33, 3) := by decide +kernel
theorem dX6_init_44 : decode cX6_init 44 = .ok (.dup, 1) := by decide +kernel
theorem dX6_init_45 : decode cX6_init 45 = .ok (.invokespecial 35, 3) := by decide +kernel
theorem dX6_init_48 : decode cX6_init 48 = .ok (.putfield 36, 3) := by decide +kernel
theorem dX6_init_51 : decode cX6_init 51 = .ok (.iconst 0, 1) := by decide +kernel
theorem dX6_init_52 : decode cX6_init 52 = .ok (.istore_n 1, 1) := by decide +kernel
theorem dX6_init_53 : decode cX6_init 53 = .ok (.iload_n 1, 1) := by decide +kernel
theorem dX6_init_54 : decode cX6_init 54 = .ok (.aload_n 0, 1) := by decide +kernel
theorem dX6_init_55 : decode cX6_init 55 = .ok (.getfield 29, 3) := by decide +kernel
theorem dX6_init_58 : decode cX6_init 58 = .ok (.arraylength, 1) := by decide +kernel
theorem dX6_init_59 : decode cX6_init 59 = .ok (.if_icmp .ge 28, 3) := by decide +kernel
theorem dX6_init_62 : decode cX6_init 62 = .ok (.aload_n 0, 1) := by decide +kernel
theorem dX6_init_63 : decode cX6_init 63 = .ok (.getfield 29, 3) := by decide +kernel
theorem dX6_init_66 : decode cX6_init 66 = .ok (.iload_n 1, 1) := by decide +kernel
theorem dX6_init_67 : decode cX6_init 67 = .ok (.new 27, 3) := by decide +kernel
theorem dX6_init_70 : decode cX6_init 70 = .ok (.dup, 1) := by decide +kernel
theorem dX6_init_71 : decode cX6_init 71 = .ok (.iload_n 1, 1) := by decide +kernel
theorem dX6_init_72 : decode cX6_init 72 = .ok (.iconst 4, 1) := by decide +kernel
theorem dX6_init_73 : decode cX6_init 73 = .ok (.idiv, 1) := by decide +kernel
theorem dX6_init_74 : decode cX6_init 74 = .ok (.iload_n 1, 1) := by decide +kernel
theorem dX6_init_75 : decode cX6_init 75 = .ok (.iconst 4, 1) := by decide +kernel
theorem dX6_init_76 : decode cX6_init 76 = .ok (.irem, 1) := by decide +kernel
theorem dX6_init_77 : decode cX6_init 77 = .ok (.invokespecial 40, 3) := by decide +kernel
theorem dX6_init_80 : decode cX6_init 80 = .ok (.aastore, 1) := by decide +kernel
theorem dX6_init_81 : decode cX6_init 81 = .ok (.iinc 1 1, 3) := by decide +kernel
theorem dX6_init_84 : decode cX6_init 84 = .ok (.goto (-31), 3) := by decide +kernel
theorem dX6_init_87 : decode cX6_init 87 = .ok (.return_, 1) := by decide +kernel
theorem dX6_thing_0 : decode cX6_thing 0 = .ok (.iload_n 1, 1) := by decide +kernel
theorem dX6_thing_1 : decode cX6_thing 1 = .ok (.invokestatic 43, 3) := by decide +kernel
theorem dX6_thing_4 : decode cX6_thing 4 = .ok (.ifCond .eq 11, 3) := by decide +kernel
theorem dX6_thing_7 : decode cX6_thing 7 = .ok (.iload_n 2, 1) := by decide +kernel
theorem dX6_thing_8 : decode cX6_thing 8 = .ok (.iload_n 3, 1) := by decide +kernel
theorem dX6_thing_9 : decode cX6_thing 9 = .ok (.invokestatic 47, 3) := by decide +kernel
theorem dX6_thing_12 : decode cX6_thing 12 = .ok (.ifCond .ne 5, 3) := by decide +kernel
theorem dX6_thing_15 : decode cX6_thing 15 = .ok (.iconst (-1), 1) := by decide +kernel
theorem dX6_thing_16 : decode cX6_thing 16 = .ok (.ireturn, 1) := by decide +kernel
theorem dX6_thing_17 : decode cX6_thing 17 = .ok (.aload_n 0, 1) := by decide +kernel
theorem dX6_thing_18 : decode cX6_thing 18 = .ok (.iload_n 1, 1) := by decide +kernel
theorem dX6_thing_19 : decode cX6_thing 19 = .ok (.iload_n 2, 1) := by decide +kernel
theorem dX6_thing_20 : decode cX6_thing 20 = .ok (.iload_n 3, 1) := by decide +kernel
theorem dX6_thing_21 : decode cX6_thing 21 = .ok (.aconst_null, 1) := by decide +kernel
theorem dX6_thing_22 : decode cX6_thing 22 = .ok (.iconst 0, 1) := by decide +kernel
theorem dX6_thing_23 : decode cX6_thing 23 = .ok (.invokevirtual 51, 3) := by decide +kernel
theorem dX6_thing_26 : decode cX6_thing 26 = .ok (.ireturn, 1) := by decide +kernel
theorem dX6_guard_0 : decode cX6_guard 0 = .ok (.aload_n 0, 1) := by decide +kernel
theorem dX6_guard_1 : decode cX6_guard 1 = .ok (.iload_n 2, 1) := by decide +kernel
theorem dX6_guard_2 : decode cX6_guard 2 = .ok (.invokevirtual 55, 3) := by decide +kernel
theorem dX6_guard_5 : decode cX6_guard 5 = .ok (.astore 5, 2) := by decide +kernel
theorem dX6_guard_7 : decode cX6_guard 7 = .ok (.iload_n 1, 1) := by decide +kernel
theorem dX6_guard_8 : decode cX6_guard 8 = .ok (.invokestatic 43, 3) := by decide +kernel
theorem dX6_guard_11 : decode cX6_guard 11 = .ok (.ifCond .eq 19, 3) := by decide +kernel
theorem dX6_guard_14 : decode cX6_guard 14 = .ok (.aload 5, 2) := by decide +kernel
theorem dX6_guard_16 : decode cX6_guard 16 = .ok (.ifnull 14, 3) := by decide +kernel
theorem dX6_guard_19 : decode cX6_guard 19 = .ok (.iload_n 3, 1) := by decide +kernel
theorem dX6_guard_20 : decode cX6_guard 20 = .ok (.ifCond .lt 10, 3) := by decide +kernel
theorem dX6_guard_23 : decode cX6_guard 23 = .ok (.iload_n 3, 1) := by decide +kernel
theorem dX6_guard_24 : decode cX6_guard 24 = .ok (.sipush 255, 3) := by decide +kernel
theorem dX6_guard_27 : decode cX6_guard 27 = .ok (.if_icmp .le 5, 3) := by decide +kernel
theorem dX6_guard_30 : decode cX6_guard 30 = .ok (.iconst (-1), 1) := by decide +kernel
theorem dX6_guard_31 : decode cX6_guard 31 = .ok (.ireturn, 1) := by decide +kernel
theorem dX6_guard_32 : decode cX6_guard 32 = .ok (.aload_n 0, 1) := by decide +kernel
theorem dX6_guard_33 : decode cX6_guard 33 = .ok (.iload_n 1, 1) := by decide +kernel
theorem dX6_guard_34 : decode cX6_guard 34 = .ok (.iload 4, 2) := by decide +kernel
theorem dX6_guard_36 : decode cX6_guard 36 = .ok (.ifCond .eq 7, 3) := by decide +kernel
theorem dX6_guard_39 : decode cX6_guard 39 = .ok (.iconst 4, 1) := by decide +kernel
theorem dX6_guard_40 : decode cX6_guard 40 = .ok (.goto 4, 3) := by decide +kernel
theorem dX6_guard_43 : decode cX6_guard 43 = .ok (.iconst 3, 1) := by decide +kernel
theorem dX6_guard_44 : decode cX6_guard 44 = .ok (.iconst 0, 1) := by decide +kernel
theorem dX6_guard_45 : decode cX6_guard 45 = .ok (.aload 5, 2) := by decide +kernel
theorem dX6_guard_47 : decode cX6_guard 47 = .ok (.iload_n 3, 1) := by decide +kernel
theorem dX6_guard_48 : decode cX6_guard 48 = .ok (.invokevirtual 51, 3) := by decide +kernel
theorem dX6_guard_51 : decode cX6_guard 51 = .ok (.ireturn, 1) := by decide +kernel
theorem dX6_shut_0 : decode cX6_shut 0 = .ok (.aload_n 0, 1) := by decide +kernel
theorem dX6_shut_1 : decode cX6_shut 1 = .ok (.iload_n 1, 1) := by decide +kernel
theorem dX6_shut_2 : decode cX6_shut 2 = .ok (.invokevirtual 55, 3) := by decide +kernel
theorem dX6_shut_5 : decode cX6_shut 5 = .ok (.astore_n 3, 1) := by decide +kernel
theorem dX6_shut_6 : decode cX6_shut 6 = .ok (.aload_n 3, 1) := by decide +kernel
theorem dX6_shut_7 : decode cX6_shut 7 = .ok (.ifnull 19, 3) := by decide +kernel
theorem dX6_shut_10 : decode cX6_shut 10 = .ok (.aload_n 3, 1) := by decide +kernel
theorem dX6_shut_11 : decode cX6_shut 11 = .ok (.getfield 59, 3) := by decide +kernel
theorem dX6_shut_14 : decode cX6_shut 14 = .ok (.iconst 3, 1) := by decide +kernel
theorem dX6_shut_15 : decode cX6_shut 15 = .ok (.if_icmp .eq 13, 3) := by decide +kernel
theorem dX6_shut_18 : decode cX6_shut 18 = .ok (.aload_n 3, 1) := by decide +kernel
theorem dX6_shut_19 : decode cX6_shut 19 = .ok (.getfield 59, 3) := by decide +kernel
theorem dX6_shut_22 : decode cX6_shut 22 = .ok (.iconst 4, 1) := by decide +kernel
theorem dX6_shut_23 : decode cX6_shut 23 = .ok (.if_icmp .eq 5, 3) := by decide +kernel
theorem dX6_shut_26 : decode cX6_shut 26 = .ok (.iconst (-1), 1) := by decide +kernel
theorem dX6_shut_27 : decode cX6_shut 27 = .ok (.ireturn, 1) := by decide +kernel
theorem dX6_shut_28 : decode cX6_shut 28 = .ok (.aload_n 3, 1) := by decide +kernel
theorem dX6_shut_29 : decode cX6_shut 29 = .ok (.getfield 63, 3) := by decide +kernel
theorem dX6_shut_32 : decode cX6_shut 32 = .ok (.invokestatic 67, 3) := by decide +kernel
theorem dX6_shut_35 : decode cX6_shut 35 = .ok (.istore 4, 2) := by decide +kernel
theorem dX6_shut_37 : decode cX6_shut 37 = .ok (.aload_n 3, 1) := by decide +kernel
theorem dX6_shut_38 : decode cX6_shut 38 = .ok (.iload_n 2, 1) := by decide +kernel
theorem dX6_shut_39 : decode cX6_shut 39 = .ok (.putfield 63, 3) := by decide +kernel
theorem dX6_shut_42 : decode cX6_shut 42 = .ok (.iload 4, 2) := by decide +kernel
theorem dX6_shut_44 : decode cX6_shut 44 = .ok (.ireturn, 1) := by decide +kernel
theorem dX6_back_0 : decode cX6_back 0 = .ok (.aload_n 0, 1) := by decide +kernel
theorem dX6_back_1 : decode cX6_back 1 = .ok (.iload_n 1, 1) := by decide +kernel
theorem dX6_back_2 : decode cX6_back 2 = .ok (.invokevirtual 55, 3) := by decide +kernel
theorem dX6_back_5 : decode cX6_back 5 = .ok (.astore_n 2, 1) := by decide +kernel
theorem dX6_back_6 : decode cX6_back 6 = .ok (.aload_n 2, 1) := by decide +kernel
theorem dX6_back_7 : decode cX6_back 7 = .ok (.ifnull 11, 3) := by decide +kernel
theorem dX6_back_10 : decode cX6_back 10 = .ok (.aload_n 2, 1) := by decide +kernel
theorem dX6_back_11 : decode cX6_back 11 = .ok (.getfield 59, 3) := by decide +kernel
theorem dX6_back_14 : decode cX6_back 14 = .ok (.iconst 4, 1) := by decide +kernel
theorem dX6_back_15 : decode cX6_back 15 = .ok (.if_icmp .eq 5, 3) := by decide +kernel
theorem dX6_back_18 : decode cX6_back 18 = .ok (.iconst (-1), 1) := by decide +kernel
theorem dX6_back_19 : decode cX6_back 19 = .ok (.ireturn, 1) := by decide +kernel
theorem dX6_back_20 : decode cX6_back 20 = .ok (.aload_n 2, 1) := by decide +kernel
theorem dX6_back_21 : decode cX6_back 21 = .ok (.getfield 71, 3) := by decide +kernel
theorem dX6_back_24 : decode cX6_back 24 = .ok (.ifCond .ne 7, 3) := by decide +kernel
theorem dX6_back_27 : decode cX6_back 27 = .ok (.iconst 1, 1) := by decide +kernel
theorem dX6_back_28 : decode cX6_back 28 = .ok (.goto 4, 3) := by decide +kernel
theorem dX6_back_31 : decode cX6_back 31 = .ok (.iconst 0, 1) := by decide +kernel
theorem dX6_back_32 : decode cX6_back 32 = .ok (.invokestatic 67, 3) := by decide +kernel
theorem dX6_back_35 : decode cX6_back 35 = .ok (.istore_n 3, 1) := by decide +kernel
theorem dX6_back_36 : decode cX6_back 36 = .ok (.aload_n 2, 1) := by decide +kernel
theorem dX6_back_37 : decode cX6_back 37 = .ok (.iconst 1, 1) := by decide +kernel
theorem dX6_back_38 : decode cX6_back 38 = .ok (.putfield 71, 3) := by decide +kernel
theorem dX6_back_41 : decode cX6_back 41 = .ok (.iload_n 3, 1) := by decide +kernel
theorem dX6_back_42 : decode cX6_back 42 = .ok (.ireturn, 1) := by decide +kernel
theorem dX6_wake_0 : decode cX6_wake 0 = .ok (.aload_n 0, 1) := by decide +kernel
theorem dX6_wake_1 : decode cX6_wake 1 = .ok (.iload_n 1, 1) := by decide +kernel
theorem dX6_wake_2 : decode cX6_wake 2 = .ok (.invokevirtual 55, 3) := by decide +kernel
theorem dX6_wake_5 : decode cX6_wake 5 = .ok (.astore_n 3, 1) := by decide +kernel
theorem dX6_wake_6 : decode cX6_wake 6 = .ok (.aload_n 3, 1) := by decide +kernel
theorem dX6_wake_7 : decode cX6_wake 7 = .ok (.ifnull 12, 3) := by decide +kernel
theorem dX6_wake_10 : decode cX6_wake 10 = .ok (.aload_n 3, 1) := by decide +kernel
theorem dX6_wake_11 : decode cX6_wake 11 = .ok (.getfield 59, 3) := by decide +kernel
theorem dX6_wake_14 : decode cX6_wake 14 = .ok (.bipush 6, 2) := by decide +kernel
theorem dX6_wake_16 : decode cX6_wake 16 = .ok (.if_icmp .eq 5, 3) := by decide +kernel
theorem dX6_wake_19 : decode cX6_wake 19 = .ok (.iconst (-1), 1) := by decide +kernel
theorem dX6_wake_20 : decode cX6_wake 20 = .ok (.ireturn, 1) := by decide +kernel
theorem dX6_wake_21 : decode cX6_wake 21 = .ok (.aload_n 0, 1) := by decide +kernel
theorem dX6_wake_22 : decode cX6_wake 22 = .ok (.aload_n 3, 1) := by decide +kernel
theorem dX6_wake_23 : decode cX6_wake 23 = .ok (.iload_n 2, 1) := by decide +kernel
theorem dX6_wake_24 : decode cX6_wake 24 = .ok (.invokevirtual 74, 3) := by decide +kernel
theorem dX6_wake_27 : decode cX6_wake 27 = .ok (.istore 4, 2) := by decide +kernel
theorem dX6_wake_29 : decode cX6_wake 29 = .ok (.aload_n 0, 1) := by decide +kernel
theorem dX6_wake_30 : decode cX6_wake 30 = .ok (.invokevirtual 78, 3) := by decide +kernel
theorem dX6_wake_33 : decode cX6_wake 33 = .ok (.iload 4, 2) := by decide +kernel
theorem dX6_wake_35 : decode cX6_wake 35 = .ok (.ireturn, 1) := by decide +kernel
theorem dX6_about_0 : decode cX6_about 0 = .ok (.aload_n 0, 1) := by decide +kernel
theorem dX6_about_1 : decode cX6_about 1 = .ok (.iload_n 1, 1) := by decide +kernel
theorem dX6_about_2 : decode cX6_about 2 = .ok (.invokevirtual 55, 3) := by decide +kernel
theorem dX6_about_5 : decode cX6_about 5 = .ok (.astore_n 3, 1) := by decide +kernel
theorem dX6_about_6 : decode cX6_about 6 = .ok (.aload_n 3, 1) := by decide +kernel
theorem dX6_about_7 : decode cX6_about 7 = .ok (.ifnonnull 5, 3) := by decide +kernel
theorem dX6_about_10 : decode cX6_about 10 = .ok (.iconst (-1), 1) := by decide +kernel
theorem dX6_about_11 : decode cX6_about 11 = .ok (.ireturn, 1) := by decide +kernel
theorem dX6_about_12 : decode cX6_about 12 = .ok (.iload_n 2, 1) := by decide +kernel
theorem dX6_about_13 : decode cX6_about 13 = .ok (.tableswitch 111 0 7 #[47, 52, 57, 62, 82, 87, 95, 103], 47) := by decide +kernel
theorem dX6_about_60 : decode cX6_about 60 = .ok (.aload_n 3, 1) := by decide +kernel
theorem dX6_about_61 : decode cX6_about 61 = .ok (.getfield 81, 3) := by decide +kernel
theorem dX6_about_64 : decode cX6_about 64 = .ok (.ireturn, 1) := by decide +kernel
theorem dX6_about_65 : decode cX6_about 65 = .ok (.aload_n 3, 1) := by decide +kernel
theorem dX6_about_66 : decode cX6_about 66 = .ok (.getfield 59, 3) := by decide +kernel
theorem dX6_about_69 : decode cX6_about 69 = .ok (.ireturn, 1) := by decide +kernel
theorem dX6_about_70 : decode cX6_about 70 = .ok (.aload_n 3, 1) := by decide +kernel
theorem dX6_about_71 : decode cX6_about 71 = .ok (.getfield 84, 3) := by decide +kernel
theorem dX6_about_74 : decode cX6_about 74 = .ok (.ireturn, 1) := by decide +kernel
theorem dX6_about_75 : decode cX6_about 75 = .ok (.aload_n 3, 1) := by decide +kernel
theorem dX6_about_76 : decode cX6_about 76 = .ok (.getfield 87, 3) := by decide +kernel
theorem dX6_about_79 : decode cX6_about 79 = .ok (.ifnonnull 8, 3) := by decide +kernel
theorem dX6_about_82 : decode cX6_about 82 = .ok (.bipush (-9), 2) := by decide +kernel
theorem dX6_about_84 : decode cX6_about 84 = .ok (.goto 10, 3) := by decide +kernel
theorem dX6_about_87 : decode cX6_about 87 = .ok (.aload_n 3, 1) := by decide +kernel
theorem dX6_about_88 : decode cX6_about 88 = .ok (.getfield 87, 3) := by decide +kernel
theorem dX6_about_91 : decode cX6_about 91 = .ok (.getfield 91, 3) := by decide +kernel
theorem dX6_about_94 : decode cX6_about 94 = .ok (.ireturn, 1) := by decide +kernel
theorem dX6_about_95 : decode cX6_about 95 = .ok (.aload_n 3, 1) := by decide +kernel
theorem dX6_about_96 : decode cX6_about 96 = .ok (.getfield 94, 3) := by decide +kernel
theorem dX6_about_99 : decode cX6_about 99 = .ok (.ireturn, 1) := by decide +kernel
theorem dX6_about_100 : decode cX6_about 100 = .ok (.aload_n 3, 1) := by decide +kernel
theorem dX6_about_101 : decode cX6_about 101 = .ok (.getfield 63, 3) := by decide +kernel
theorem dX6_about_104 : decode cX6_about 104 = .ok (.invokestatic 67, 3) := by decide +kernel
theorem dX6_about_107 : decode cX6_about 107 = .ok (.ireturn, 1) := by decide +kernel
theorem dX6_about_108 : decode cX6_about 108 = .ok (.aload_n 3, 1) := by decide +kernel
theorem dX6_about_109 : decode cX6_about 109 = .ok (.getfield 71, 3) := by decide +kernel
theorem dX6_about_112 : decode cX6_about 112 = .ok (.invokestatic 67, 3) := by decide +kernel
theorem dX6_about_115 : decode cX6_about 115 = .ok (.ireturn, 1) := by decide +kernel
theorem dX6_about_116 : decode cX6_about 116 = .ok (.aload_n 3, 1) := by decide +kernel
theorem dX6_about_117 : decode cX6_about 117 = .ok (.getfield 97, 3) := by decide +kernel
theorem dX6_about_120 : decode cX6_about 120 = .ok (.getfield 100, 3) := by decide +kernel
theorem dX6_about_123 : decode cX6_about 123 = .ok (.ireturn, 1) := by decide +kernel
theorem dX6_about_124 : decode cX6_about 124 = .ok (.iconst (-1), 1) := by decide +kernel
theorem dX6_about_125 : decode cX6_about 125 = .ok (.ireturn, 1) := by decide +kernel
theorem dX6_ask_0 : decode cX6_ask 0 = .ok (.iload_n 2, 1) := by decide +kernel
theorem dX6_ask_1 : decode cX6_ask 1 = .ok (.ifCond .ne 11, 3) := by decide +kernel
theorem dX6_ask_4 : decode cX6_ask 4 = .ok (.aload_n 0, 1) := by decide +kernel
theorem dX6_ask_5 : decode cX6_ask 5 = .ok (.iload_n 3, 1) := by decide +kernel
theorem dX6_ask_6 : decode cX6_ask 6 = .ok (.invokevirtual 55, 3) := by decide +kernel
theorem dX6_ask_9 : decode cX6_ask 9 = .ok (.goto 4, 3) := by decide +kernel
theorem dX6_ask_12 : decode cX6_ask 12 = .ok (.aconst_null, 1) := by decide +kernel
theorem dX6_ask_13 : decode cX6_ask 13 = .ok (.astore 7, 2) := by decide +kernel
theorem dX6_ask_15 : decode cX6_ask 15 = .ok (.iload_n 2, 1) := by decide +kernel
theorem dX6_ask_16 : decode cX6_ask 16 = .ok (.iconst 1, 1) := by decide +kernel
theorem dX6_ask_17 : decode cX6_ask 17 = .ok (.if_icmp .ne 11, 3) := by decide +kernel
theorem dX6_ask_20 : decode cX6_ask 20 = .ok (.aload_n 0, 1) := by decide +kernel
theorem dX6_ask_21 : decode cX6_ask 21 = .ok (.iload_n 3, 1) := by decide +kernel
theorem dX6_ask_22 : decode cX6_ask 22 = .ok (.invokevirtual 103, 3) := by decide +kernel
theorem dX6_ask_25 : decode cX6_ask 25 = .ok (.goto 4, 3) := by decide +kernel
theorem dX6_ask_28 : decode cX6_ask 28 = .ok (.aconst_null, 1) := by decide +kernel
theorem dX6_ask_29 : decode cX6_ask 29 = .ok (.astore 8, 2) := by decide +kernel
theorem dX6_ask_31 : decode cX6_ask 31 = .ok (.iload 4, 2) := by decide +kernel
theorem dX6_ask_33 : decode cX6_ask 33 = .ok (.iconst 4, 1) := by decide +kernel
theorem dX6_ask_34 : decode cX6_ask 34 = .ok (.if_icmp .ne 12, 3) := by decide +kernel
theorem dX6_ask_37 : decode cX6_ask 37 = .ok (.aload_n 0, 1) := by decide +kernel
theorem dX6_ask_38 : decode cX6_ask 38 = .ok (.iload 6, 2) := by decide +kernel
theorem dX6_ask_40 : decode cX6_ask 40 = .ok (.invokevirtual 55, 3) := by decide +kernel
theorem dX6_ask_43 : decode cX6_ask 43 = .ok (.goto 4, 3) := by decide +kernel
theorem dX6_ask_46 : decode cX6_ask 46 = .ok (.aconst_null, 1) := by decide +kernel
theorem dX6_ask_47 : decode cX6_ask 47 = .ok (.astore 9, 2) := by decide +kernel
theorem dX6_ask_49 : decode cX6_ask 49 = .ok (.iload_n 1, 1) := by decide +kernel
theorem dX6_ask_50 : decode cX6_ask 50 = .ok (.invokestatic 43, 3) := by decide +kernel
theorem dX6_ask_53 : decode cX6_ask 53 = .ok (.ifCond .eq 36, 3) := by decide +kernel
theorem dX6_ask_56 : decode cX6_ask 56 = .ok (.aload 7, 2) := by decide +kernel
theorem dX6_ask_58 : decode cX6_ask 58 = .ok (.ifnonnull 8, 3) := by decide +kernel
theorem dX6_ask_61 : decode cX6_ask 61 = .ok (.aload 8, 2) := by decide +kernel
theorem dX6_ask_63 : decode cX6_ask 63 = .ok (.ifnull 26, 3) := by decide +kernel
theorem dX6_ask_66 : decode cX6_ask 66 = .ok (.iload 4, 2) := by decide +kernel
theorem dX6_ask_68 : decode cX6_ask 68 = .ok (.ifCond .lt 21, 3) := by decide +kernel
theorem dX6_ask_71 : decode cX6_ask 71 = .ok (.iload 4, 2) := by decide +kernel
theorem dX6_ask_73 : decode cX6_ask 73 = .ok (.bipush 7, 2) := by decide +kernel
theorem dX6_ask_75 : decode cX6_ask 75 = .ok (.if_icmp .gt 14, 3) := by decide +kernel
theorem dX6_ask_78 : decode cX6_ask 78 = .ok (.iload 4, 2) := by decide +kernel
theorem dX6_ask_80 : decode cX6_ask 80 = .ok (.iconst 4, 1) := by decide +kernel
theorem dX6_ask_81 : decode cX6_ask 81 = .ok (.if_icmp .ne 10, 3) := by decide +kernel
theorem dX6_ask_84 : decode cX6_ask 84 = .ok (.aload 9, 2) := by decide +kernel
theorem dX6_ask_86 : decode cX6_ask 86 = .ok (.ifnonnull 5, 3) := by decide +kernel
theorem dX6_ask_89 : decode cX6_ask 89 = .ok (.iconst (-1), 1) := by decide +kernel
theorem dX6_ask_90 : decode cX6_ask 90 = .ok (.ireturn, 1) := by decide +kernel
theorem dX6_ask_91 : decode cX6_ask 91 = .ok (.aload 8, 2) := by decide +kernel
theorem dX6_ask_93 : decode cX6_ask 93 = .ok (.ifnull 15, 3) := by decide +kernel
theorem dX6_ask_96 : decode cX6_ask 96 = .ok (.aload 8, 2) := by decide +kernel
theorem dX6_ask_98 : decode cX6_ask 98 = .ok (.iload_n 1, 1) := by decide +kernel
theorem dX6_ask_99 : decode cX6_ask 99 = .ok (.invokevirtual 107, 3) := by decide +kernel
theorem dX6_ask_102 : decode cX6_ask 102 = .ok (.ifCond .ne 6, 3) := by decide +kernel
theorem dX6_ask_105 : decode cX6_ask 105 = .ok (.bipush (-2), 2) := by decide +kernel
theorem dX6_ask_107 : decode cX6_ask 107 = .ok (.ireturn, 1) := by decide +kernel
theorem dX6_ask_108 : decode cX6_ask 108 = .ok (.aload_n 0, 1) := by decide +kernel
theorem dX6_ask_109 : decode cX6_ask 109 = .ok (.getfield 110, 3) := by decide +kernel
theorem dX6_ask_112 : decode cX6_ask 112 = .ok (.aload_n 0, 1) := by decide +kernel
theorem dX6_ask_113 : decode cX6_ask 113 = .ok (.getfield 17, 3) := by decide +kernel
theorem dX6_ask_116 : decode cX6_ask 116 = .ok (.arraylength, 1) := by decide +kernel
theorem dX6_ask_117 : decode cX6_ask 117 = .ok (.if_icmp .lt 6, 3) := by decide +kernel
theorem dX6_ask_120 : decode cX6_ask 120 = .ok (.bipush (-3), 2) := by decide +kernel
theorem dX6_ask_122 : decode cX6_ask 122 = .ok (.ireturn, 1) := by decide +kernel
theorem dX6_ask_123 : decode cX6_ask 123 = .ok (.new 113, 3) := by decide +kernel
theorem dX6_ask_126 : decode cX6_ask 126 = .ok (.dup, 1) := by decide +kernel
theorem dX6_ask_127 : decode cX6_ask 127 = .ok (.iload 4, 2) := by decide +kernel
theorem dX6_ask_129 : decode cX6_ask 129 = .ok (.iload 5, 2) := by decide +kernel
theorem dX6_ask_131 : decode cX6_ask 131 = .ok (.aload 9, 2) := by decide +kernel
theorem dX6_ask_133 : decode cX6_ask 133 = .ok (.invokespecial 115, 3) := by decide +kernel
theorem dX6_ask_136 : decode cX6_ask 136 = .ok (.astore 10, 2) := by decide +kernel
theorem dX6_ask_138 : decode cX6_ask 138 = .ok (.aload 10, 2) := by decide +kernel
theorem dX6_ask_140 : decode cX6_ask 140 = .ok (.aload 7, 2) := by decide +kernel
theorem dX6_ask_142 : decode cX6_ask 142 = .ok (.putfield 118, 3) := by decide +kernel
theorem dX6_ask_145 : decode cX6_ask 145 = .ok (.aload 10, 2) := by decide +kernel
theorem dX6_ask_147 : decode cX6_ask 147 = .ok (.aload 8, 2) := by decide +kernel
theorem dX6_ask_149 : decode cX6_ask 149 = .ok (.putfield 121, 3) := by decide +kernel
theorem dX6_ask_152 : decode cX6_ask 152 = .ok (.aload 10, 2) := by decide +kernel
theorem dX6_ask_154 : decode cX6_ask 154 = .ok (.invokevirtual 125, 3) := by decide +kernel
theorem dX6_ask_157 : decode cX6_ask 157 = .ok (.istore 11, 2) := by decide +kernel
theorem dX6_ask_159 : decode cX6_ask 159 = .ok (.new 15, 3) := by decide +kernel
theorem dX6_ask_162 : decode cX6_ask 162 = .ok (.dup, 1) := by decide +kernel
theorem dX6_ask_163 : decode cX6_ask 163 = .ok (.aload_n 0, 1) := by decide +kernel
theorem dX6_ask_164 : decode cX6_ask 164 = .ok (.getfield 110, 3) := by decide +kernel
theorem dX6_ask_167 : decode cX6_ask 167 = .ok (.iload_n 1, 1) := by decide +kernel
theorem dX6_ask_168 : decode cX6_ask 168 = .ok (.iload 11, 2) := by decide +kernel
theorem dX6_ask_170 : decode cX6_ask 170 = .ok (.aload 10, 2) := by decide +kernel
theorem dX6_ask_172 : decode cX6_ask 172 = .ok (.invokespecial 129, 3) := by decide +kernel
theorem dX6_ask_175 : decode cX6_ask 175 = .ok (.astore 12, 2) := by decide +kernel
theorem dX6_ask_177 : decode cX6_ask 177 = .ok (.aload 10, 2) := by decide +kernel
theorem dX6_ask_179 : decode cX6_ask 179 = .ok (.aload 12, 2) := by decide +kernel
theorem dX6_ask_181 : decode cX6_ask 181 = .ok (.putfield 132, 3) := by decide +kernel
theorem dX6_ask_184 : decode cX6_ask 184 = .ok (.aload_n 0, 1) := by decide +kernel
theorem dX6_ask_185 : decode cX6_ask 185 = .ok (.getfield 17, 3) := by decide +kernel
theorem dX6_ask_188 : decode cX6_ask 188 = .ok (.aload_n 0, 1) := by decide +kernel
theorem dX6_ask_189 : decode cX6_ask 189 = .ok (.getfield 110, 3) := by decide +kernel
theorem dX6_ask_192 : decode cX6_ask 192 = .ok (.aload 12, 2) := by decide +kernel
theorem dX6_ask_194 : decode cX6_ask 194 = .ok (.aastore, 1) := by decide +kernel
theorem dX6_ask_195 : decode cX6_ask 195 = .ok (.aload_n 0, 1) := by decide +kernel
theorem dX6_ask_196 : decode cX6_ask 196 = .ok (.dup, 1) := by decide +kernel
theorem dX6_ask_197 : decode cX6_ask 197 = .ok (.getfield 110, 3) := by decide +kernel
theorem dX6_ask_200 : decode cX6_ask 200 = .ok (.iconst 1, 1) := by decide +kernel
theorem dX6_ask_201 : decode cX6_ask 201 = .ok (.iadd, 1) := by decide +kernel
theorem dX6_ask_202 : decode cX6_ask 202 = .ok (.putfield 110, 3) := by decide +kernel
theorem dX6_ask_205 : decode cX6_ask 205 = .ok (.aload_n 0, 1) := by decide +kernel
theorem dX6_ask_206 : decode cX6_ask 206 = .ok (.aload 10, 2) := by decide +kernel
theorem dX6_ask_208 : decode cX6_ask 208 = .ok (.iload_n 1, 1) := by decide +kernel
theorem dX6_ask_209 : decode cX6_ask 209 = .ok (.invokevirtual 135, 3) := by decide +kernel
theorem dX6_ask_212 : decode cX6_ask 212 = .ok (.aload_n 0, 1) := by decide +kernel
theorem dX6_ask_213 : decode cX6_ask 213 = .ok (.invokevirtual 78, 3) := by decide +kernel
theorem dX6_ask_216 : decode cX6_ask 216 = .ok (.aload 12, 2) := by decide +kernel
theorem dX6_ask_218 : decode cX6_ask 218 = .ok (.getfield 139, 3) := by decide +kernel
theorem dX6_ask_221 : decode cX6_ask 221 = .ok (.ireturn, 1) := by decide +kernel
theorem dX6_when_0 : decode cX6_when 0 = .ok (.aload_n 0, 1) := by decide +kernel
theorem dX6_when_1 : decode cX6_when 1 = .ok (.iload_n 2, 1) := by decide +kernel
theorem dX6_when_2 : decode cX6_when 2 = .ok (.invokevirtual 103, 3) := by decide +kernel
theorem dX6_when_5 : decode cX6_when 5 = .ok (.astore 4, 2) := by decide +kernel
theorem dX6_when_7 : decode cX6_when 7 = .ok (.aload_n 0, 1) := by decide +kernel
theorem dX6_when_8 : decode cX6_when 8 = .ok (.iload_n 3, 1) := by decide +kernel
theorem dX6_when_9 : decode cX6_when 9 = .ok (.invokevirtual 55, 3) := by decide +kernel
theorem dX6_when_12 : decode cX6_when 12 = .ok (.astore 5, 2) := by decide +kernel
theorem dX6_when_14 : decode cX6_when 14 = .ok (.iload_n 1, 1) := by decide +kernel
theorem dX6_when_15 : decode cX6_when 15 = .ok (.invokestatic 43, 3) := by decide +kernel
theorem dX6_when_18 : decode cX6_when 18 = .ok (.ifCond .eq 22, 3) := by decide +kernel
theorem dX6_when_21 : decode cX6_when 21 = .ok (.aload 4, 2) := by decide +kernel
theorem dX6_when_23 : decode cX6_when 23 = .ok (.ifnull 17, 3) := by decide +kernel
theorem dX6_when_26 : decode cX6_when 26 = .ok (.aload 5, 2) := by decide +kernel
theorem dX6_when_28 : decode cX6_when 28 = .ok (.ifnull 12, 3) := by decide +kernel
theorem dX6_when_31 : decode cX6_when 31 = .ok (.aload 5, 2) := by decide +kernel
theorem dX6_when_33 : decode cX6_when 33 = .ok (.getfield 81, 3) := by decide +kernel
theorem dX6_when_36 : decode cX6_when 36 = .ok (.iload_n 1, 1) := by decide +kernel
theorem dX6_when_37 : decode cX6_when 37 = .ok (.if_icmp .eq 5, 3) := by decide +kernel
theorem dX6_when_40 : decode cX6_when 40 = .ok (.iconst (-1), 1) := by decide +kernel
theorem dX6_when_41 : decode cX6_when 41 = .ok (.ireturn, 1) := by decide +kernel
theorem dX6_when_42 : decode cX6_when 42 = .ok (.aload 4, 2) := by decide +kernel
theorem dX6_when_44 : decode cX6_when 44 = .ok (.iload_n 1, 1) := by decide +kernel
theorem dX6_when_45 : decode cX6_when 45 = .ok (.invokevirtual 107, 3) := by decide +kernel
theorem dX6_when_48 : decode cX6_when 48 = .ok (.ifCond .ne 6, 3) := by decide +kernel
theorem dX6_when_51 : decode cX6_when 51 = .ok (.bipush (-2), 2) := by decide +kernel
theorem dX6_when_53 : decode cX6_when 53 = .ok (.ireturn, 1) := by decide +kernel
theorem dX6_when_54 : decode cX6_when 54 = .ok (.aload_n 0, 1) := by decide +kernel
theorem dX6_when_55 : decode cX6_when 55 = .ok (.getfield 140, 3) := by decide +kernel
theorem dX6_when_58 : decode cX6_when 58 = .ok (.aload_n 0, 1) := by decide +kernel
theorem dX6_when_59 : decode cX6_when 59 = .ok (.getfield 23, 3) := by decide +kernel
theorem dX6_when_62 : decode cX6_when 62 = .ok (.arraylength, 1) := by decide +kernel
theorem dX6_when_63 : decode cX6_when 63 = .ok (.if_icmp .lt 6, 3) := by decide +kernel
theorem dX6_when_66 : decode cX6_when 66 = .ok (.bipush (-3), 2) := by decide +kernel
theorem dX6_when_68 : decode cX6_when 68 = .ok (.ireturn, 1) := by decide +kernel
theorem dX6_when_69 : decode cX6_when 69 = .ok (.new 21, 3) := by decide +kernel
theorem dX6_when_72 : decode cX6_when 72 = .ok (.dup, 1) := by decide +kernel
theorem dX6_when_73 : decode cX6_when 73 = .ok (.aload 4, 2) := by decide +kernel
theorem dX6_when_75 : decode cX6_when 75 = .ok (.iload_n 1, 1) := by decide +kernel
theorem dX6_when_76 : decode cX6_when 76 = .ok (.aload 5, 2) := by decide +kernel
theorem dX6_when_78 : decode cX6_when 78 = .ok (.invokespecial 143, 3) := by decide +kernel
theorem dX6_when_81 : decode cX6_when 81 = .ok (.astore 6, 2) := by decide +kernel
theorem dX6_when_83 : decode cX6_when 83 = .ok (.aload_n 0, 1) := by decide +kernel
theorem dX6_when_84 : decode cX6_when 84 = .ok (.getfield 23, 3) := by decide +kernel
theorem dX6_when_87 : decode cX6_when 87 = .ok (.aload_n 0, 1) := by decide +kernel
theorem dX6_when_88 : decode cX6_when 88 = .ok (.getfield 140, 3) := by decide +kernel
theorem dX6_when_91 : decode cX6_when 91 = .ok (.aload 6, 2) := by decide +kernel
theorem dX6_when_93 : decode cX6_when 93 = .ok (.aastore, 1) := by decide +kernel
theorem dX6_when_94 : decode cX6_when 94 = .ok (.aload_n 0, 1) := by decide +kernel
theorem dX6_when_95 : decode cX6_when 95 = .ok (.dup, 1) := by decide +kernel
theorem dX6_when_96 : decode cX6_when 96 = .ok (.getfield 140, 3) := by decide +kernel
theorem dX6_when_99 : decode cX6_when 99 = .ok (.iconst 1, 1) := by decide +kernel
theorem dX6_when_100 : decode cX6_when 100 = .ok (.iadd, 1) := by decide +kernel
theorem dX6_when_101 : decode cX6_when 101 = .ok (.putfield 140, 3) := by decide +kernel
theorem dX6_when_104 : decode cX6_when 104 = .ok (.aload 4, 2) := by decide +kernel
theorem dX6_when_106 : decode cX6_when 106 = .ok (.iload_n 1, 1) := by decide +kernel
theorem dX6_when_107 : decode cX6_when 107 = .ok (.invokevirtual 146, 3) := by decide +kernel
theorem dX6_when_110 : decode cX6_when 110 = .ok (.ifCond .eq 9, 3) := by decide +kernel
theorem dX6_when_113 : decode cX6_when 113 = .ok (.aload_n 0, 1) := by decide +kernel
theorem dX6_when_114 : decode cX6_when 114 = .ok (.aload 6, 2) := by decide +kernel
theorem dX6_when_116 : decode cX6_when 116 = .ok (.invokevirtual 150, 3) := by decide +kernel
theorem dX6_when_119 : decode cX6_when 119 = .ok (.aload_n 0, 1) := by decide +kernel
theorem dX6_when_120 : decode cX6_when 120 = .ok (.getfield 140, 3) := by decide +kernel
theorem dX6_when_123 : decode cX6_when 123 = .ok (.ireturn, 1) := by decide +kernel
theorem dX6_state_0 : decode cX6_state 0 = .ok (.aload_n 0, 1) := by decide +kernel
theorem dX6_state_1 : decode cX6_state 1 = .ok (.iload_n 1, 1) := by decide +kernel
theorem dX6_state_2 : decode cX6_state 2 = .ok (.invokevirtual 103, 3) := by decide +kernel
theorem dX6_state_5 : decode cX6_state 5 = .ok (.astore 4, 2) := by decide +kernel
theorem dX6_state_7 : decode cX6_state 7 = .ok (.aload 4, 2) := by decide +kernel
theorem dX6_state_9 : decode cX6_state 9 = .ok (.ifnull 19, 3) := by decide +kernel
theorem dX6_state_12 : decode cX6_state 12 = .ok (.iload_n 2, 1) := by decide +kernel
theorem dX6_state_13 : decode cX6_state 13 = .ok (.invokestatic 43, 3) := by decide +kernel
theorem dX6_state_16 : decode cX6_state 16 = .ok (.ifCond .eq 12, 3) := by decide +kernel
theorem dX6_state_19 : decode cX6_state 19 = .ok (.iload_n 3, 1) := by decide +kernel
theorem dX6_state_20 : decode cX6_state 20 = .ok (.ifCond .lt 8, 3) := by decide +kernel
theorem dX6_state_23 : decode cX6_state 23 = .ok (.iload_n 3, 1) := by decide +kernel
theorem dX6_state_24 : decode cX6_state 24 = .ok (.iconst 1, 1) := by decide +kernel
theorem dX6_state_25 : decode cX6_state 25 = .ok (.if_icmp .le 5, 3) := by decide +kernel
theorem dX6_state_28 : decode cX6_state 28 = .ok (.iconst (-1), 1) := by decide +kernel
theorem dX6_state_29 : decode cX6_state 29 = .ok (.ireturn, 1) := by decide +kernel
theorem dX6_state_30 : decode cX6_state 30 = .ok (.aload 4, 2) := by decide +kernel
theorem dX6_state_32 : decode cX6_state 32 = .ok (.iload_n 2, 1) := by decide +kernel
theorem dX6_state_33 : decode cX6_state 33 = .ok (.invokevirtual 107, 3) := by decide +kernel
theorem dX6_state_36 : decode cX6_state 36 = .ok (.ifCond .ne 6, 3) := by decide +kernel
theorem dX6_state_39 : decode cX6_state 39 = .ok (.bipush (-2), 2) := by decide +kernel
theorem dX6_state_41 : decode cX6_state 41 = .ok (.ireturn, 1) := by decide +kernel
theorem dX6_state_42 : decode cX6_state 42 = .ok (.iload_n 3, 1) := by decide +kernel
theorem dX6_state_43 : decode cX6_state 43 = .ok (.ifCond .ne 12, 3) := by decide +kernel
theorem dX6_state_46 : decode cX6_state 46 = .ok (.aload 4, 2) := by decide +kernel
theorem dX6_state_48 : decode cX6_state 48 = .ok (.iload_n 2, 1) := by decide +kernel
theorem dX6_state_49 : decode cX6_state 49 = .ok (.invokevirtual 146, 3) := by decide +kernel
theorem dX6_state_52 : decode cX6_state 52 = .ok (.goto 9, 3) := by decide +kernel
theorem dX6_state_55 : decode cX6_state 55 = .ok (.aload 4, 2) := by decide +kernel
theorem dX6_state_57 : decode cX6_state 57 = .ok (.iload_n 2, 1) := by decide +kernel
theorem dX6_state_58 : decode cX6_state 58 = .ok (.invokevirtual 154, 3) := by decide +kernel
theorem dX6_state_61 : decode cX6_state 61 = .ok (.ireturn, 1) := by decide +kernel
theorem dX6_promise_0 : decode cX6_promise 0 = .ok (.aload_n 0, 1) := by decide +kernel
theorem dX6_promise_1 : decode cX6_promise 1 = .ok (.iload_n 1, 1) := by decide +kernel
theorem dX6_promise_2 : decode cX6_promise 2 = .ok (.invokevirtual 103, 3) := by decide +kernel
theorem dX6_promise_5 : decode cX6_promise 5 = .ok (.astore_n 3, 1) := by decide +kernel
theorem dX6_promise_6 : decode cX6_promise 6 = .ok (.aload_n 3, 1) := by decide +kernel
theorem dX6_promise_7 : decode cX6_promise 7 = .ok (.ifnonnull 5, 3) := by decide +kernel
theorem dX6_promise_10 : decode cX6_promise 10 = .ok (.iconst (-1), 1) := by decide +kernel
theorem dX6_promise_11 : decode cX6_promise 11 = .ok (.ireturn, 1) := by decide +kernel
theorem dX6_promise_12 : decode cX6_promise 12 = .ok (.iload_n 2, 1) := by decide +kernel
theorem dX6_promise_13 : decode cX6_promise 13 = .ok (.tableswitch 69 0 4 #[35, 40, 45, 53, 61], 35) := by decide +kernel
theorem dX6_promise_48 : decode cX6_promise 48 = .ok (.aload_n 3, 1) := by decide +kernel
theorem dX6_promise_49 : decode cX6_promise 49 = .ok (.getfield 157, 3) := by decide +kernel
theorem dX6_promise_52 : decode cX6_promise 52 = .ok (.ireturn, 1) := by decide +kernel
theorem dX6_promise_53 : decode cX6_promise 53 = .ok (.aload_n 3, 1) := by decide +kernel
theorem dX6_promise_54 : decode cX6_promise 54 = .ok (.getfield 160, 3) := by decide +kernel
theorem dX6_promise_57 : decode cX6_promise 57 = .ok (.ireturn, 1) := by decide +kernel
theorem dX6_promise_58 : decode cX6_promise 58 = .ok (.aload_n 3, 1) := by decide +kernel
theorem dX6_promise_59 : decode cX6_promise 59 = .ok (.getfield 163, 3) := by decide +kernel
theorem dX6_promise_62 : decode cX6_promise 62 = .ok (.getfield 100, 3) := by decide +kernel
theorem dX6_promise_65 : decode cX6_promise 65 = .ok (.ireturn, 1) := by decide +kernel
theorem dX6_promise_66 : decode cX6_promise 66 = .ok (.aload_n 3, 1) := by decide +kernel
theorem dX6_promise_67 : decode cX6_promise 67 = .ok (.getfield 166, 3) := by decide +kernel
theorem dX6_promise_70 : decode cX6_promise 70 = .ok (.getfield 170, 3) := by decide +kernel
theorem dX6_promise_73 : decode cX6_promise 73 = .ok (.ireturn, 1) := by decide +kernel
theorem dX6_promise_74 : decode cX6_promise 74 = .ok (.aload_n 3, 1) := by decide +kernel
theorem dX6_promise_75 : decode cX6_promise 75 = .ok (.getfield 166, 3) := by decide +kernel
theorem dX6_promise_78 : decode cX6_promise 78 = .ok (.getfield 173, 3) := by decide +kernel
theorem dX6_promise_81 : decode cX6_promise 81 = .ok (.ireturn, 1) := by decide +kernel
theorem dX6_promise_82 : decode cX6_promise 82 = .ok (.iconst (-1), 1) := by decide +kernel
theorem dX6_promise_83 : decode cX6_promise 83 = .ok (.ireturn, 1) := by decide +kernel
theorem dX6_deliver_0 : decode cX6_deliver 0 = .ok (.aload_n 0, 1) := by decide +kernel
theorem dX6_deliver_1 : decode cX6_deliver 1 = .ok (.iload_n 1, 1) := by decide +kernel
theorem dX6_deliver_2 : decode cX6_deliver 2 = .ok (.iload_n 2, 1) := by decide +kernel
theorem dX6_deliver_3 : decode cX6_deliver 3 = .ok (.invokevirtual 176, 3) := by decide +kernel
theorem dX6_deliver_6 : decode cX6_deliver 6 = .ok (.astore_n 3, 1) := by decide +kernel
theorem dX6_deliver_7 : decode cX6_deliver 7 = .ok (.aload_n 3, 1) := by decide +kernel
theorem dX6_deliver_8 : decode cX6_deliver 8 = .ok (.ifnonnull 5, 3) := by decide +kernel
theorem dX6_deliver_11 : decode cX6_deliver 11 = .ok (.iconst (-1), 1) := by decide +kernel
theorem dX6_deliver_12 : decode cX6_deliver 12 = .ok (.ireturn, 1) := by decide +kernel
theorem dX6_deliver_13 : decode cX6_deliver 13 = .ok (.aload_n 0, 1) := by decide +kernel
theorem dX6_deliver_14 : decode cX6_deliver 14 = .ok (.aload_n 3, 1) := by decide +kernel
theorem dX6_deliver_15 : decode cX6_deliver 15 = .ok (.invokevirtual 180, 3) := by decide +kernel
theorem dX6_deliver_18 : decode cX6_deliver 18 = .ok (.istore 4, 2) := by decide +kernel
theorem dX6_deliver_20 : decode cX6_deliver 20 = .ok (.aload_n 0, 1) := by decide +kernel
theorem dX6_deliver_21 : decode cX6_deliver 21 = .ok (.invokevirtual 78, 3) := by decide +kernel
theorem dX6_deliver_24 : decode cX6_deliver 24 = .ok (.iload 4, 2) := by decide +kernel
theorem dX6_deliver_26 : decode cX6_deliver 26 = .ok (.ireturn, 1) := by decide +kernel
theorem dX6_flow_0 : decode cX6_flow 0 = .ok (.iload_n 1, 1) := by decide +kernel
theorem dX6_flow_1 : decode cX6_flow 1 = .ok (.iconst 1, 1) := by decide +kernel
theorem dX6_flow_2 : decode cX6_flow 2 = .ok (.if_icmp .lt 9, 3) := by decide +kernel
theorem dX6_flow_5 : decode cX6_flow 5 = .ok (.iload_n 1, 1) := by decide +kernel
theorem dX6_flow_6 : decode cX6_flow 6 = .ok (.bipush 100, 2) := by decide +kernel
theorem dX6_flow_8 : decode cX6_flow 8 = .ok (.if_icmp .le 5, 3) := by decide +kernel
theorem dX6_flow_11 : decode cX6_flow 11 = .ok (.iconst (-1), 1) := by decide +kernel
theorem dX6_flow_12 : decode cX6_flow 12 = .ok (.ireturn, 1) := by decide +kernel
theorem dX6_flow_13 : decode cX6_flow 13 = .ok (.iconst 0, 1) := by decide +kernel
theorem dX6_flow_14 : decode cX6_flow 14 = .ok (.istore_n 2, 1) := by decide +kernel
theorem dX6_flow_15 : decode cX6_flow 15 = .ok (.iload_n 2, 1) := by decide +kernel
theorem dX6_flow_16 : decode cX6_flow 16 = .ok (.iload_n 1, 1) := by decide +kernel
theorem dX6_flow_17 : decode cX6_flow 17 = .ok (.if_icmp .ge 30, 3) := by decide +kernel
theorem dX6_flow_20 : decode cX6_flow 20 = .ok (.aload_n 0, 1) := by decide +kernel
theorem dX6_flow_21 : decode cX6_flow 21 = .ok (.invokevirtual 184, 3) := by decide +kernel
theorem dX6_flow_24 : decode cX6_flow 24 = .ok (.astore_n 3, 1) := by decide +kernel
theorem dX6_flow_25 : decode cX6_flow 25 = .ok (.aload_n 3, 1) := by decide +kernel
theorem dX6_flow_26 : decode cX6_flow 26 = .ok (.ifnonnull 5, 3) := by decide +kernel
theorem dX6_flow_29 : decode cX6_flow 29 = .ok (.iload_n 2, 1) := by decide +kernel
theorem dX6_flow_30 : decode cX6_flow 30 = .ok (.ireturn, 1) := by decide +kernel
theorem dX6_flow_31 : decode cX6_flow 31 = .ok (.aload_n 0, 1) := by decide +kernel
theorem dX6_flow_32 : decode cX6_flow 32 = .ok (.aload_n 3, 1) := by decide +kernel
theorem dX6_flow_33 : decode cX6_flow 33 = .ok (.invokevirtual 180, 3) := by decide +kernel
theorem dX6_flow_36 : decode cX6_flow 36 = .ok (.pop, 1) := by decide +kernel
theorem dX6_flow_37 : decode cX6_flow 37 = .ok (.aload_n 0, 1) := by decide +kernel
theorem dX6_flow_38 : decode cX6_flow 38 = .ok (.invokevirtual 78, 3) := by decide +kernel
theorem dX6_flow_41 : decode cX6_flow 41 = .ok (.iinc 2 1, 3) := by decide +kernel
theorem dX6_flow_44 : decode cX6_flow 44 = .ok (.goto (-29), 3) := by decide +kernel
theorem dX6_flow_47 : decode cX6_flow 47 = .ok (.iload_n 1, 1) := by decide +kernel
theorem dX6_flow_48 : decode cX6_flow 48 = .ok (.ireturn, 1) := by decide +kernel
theorem dX6_cut_0 : decode cX6_cut 0 = .ok (.aload_n 0, 1) := by decide +kernel
theorem dX6_cut_1 : decode cX6_cut 1 = .ok (.iload_n 1, 1) := by decide +kernel
theorem dX6_cut_2 : decode cX6_cut 2 = .ok (.iload_n 2, 1) := by decide +kernel
theorem dX6_cut_3 : decode cX6_cut 3 = .ok (.invokestatic 188, 3) := by decide +kernel
theorem dX6_cut_6 : decode cX6_cut 6 = .ok (.iload_n 1, 1) := by decide +kernel
theorem dX6_cut_7 : decode cX6_cut 7 = .ok (.iload_n 2, 1) := by decide +kernel
theorem dX6_cut_8 : decode cX6_cut 8 = .ok (.invokestatic 194, 3) := by decide +kernel
theorem dX6_cut_11 : decode cX6_cut 11 = .ok (.invokevirtual 176, 3) := by decide +kernel
theorem dX6_cut_14 : decode cX6_cut 14 = .ok (.astore_n 3, 1) := by decide +kernel
theorem dX6_cut_15 : decode cX6_cut 15 = .ok (.aload_n 0, 1) := by decide +kernel
theorem dX6_cut_16 : decode cX6_cut 16 = .ok (.iload_n 1, 1) := by decide +kernel
theorem dX6_cut_17 : decode cX6_cut 17 = .ok (.iload_n 2, 1) := by decide +kernel
theorem dX6_cut_18 : decode cX6_cut 18 = .ok (.invokestatic 194, 3) := by decide +kernel
theorem dX6_cut_21 : decode cX6_cut 21 = .ok (.iload_n 1, 1) := by decide +kernel
theorem dX6_cut_22 : decode cX6_cut 22 = .ok (.iload_n 2, 1) := by decide +kernel
theorem dX6_cut_23 : decode cX6_cut 23 = .ok (.invokestatic 188, 3) := by decide +kernel
theorem dX6_cut_26 : decode cX6_cut 26 = .ok (.invokevirtual 176, 3) := by decide +kernel
theorem dX6_cut_29 : decode cX6_cut 29 = .ok (.astore 4, 2) := by decide +kernel
theorem dX6_cut_31 : decode cX6_cut 31 = .ok (.aload_n 3, 1) := by decide +kernel
theorem dX6_cut_32 : decode cX6_cut 32 = .ok (.ifnull 13, 3) := by decide +kernel
theorem dX6_cut_35 : decode cX6_cut 35 = .ok (.aload 4, 2) := by decide +kernel
theorem dX6_cut_37 : decode cX6_cut 37 = .ok (.ifnull 8, 3) := by decide +kernel
theorem dX6_cut_40 : decode cX6_cut 40 = .ok (.iload_n 1, 1) := by decide +kernel
theorem dX6_cut_41 : decode cX6_cut 41 = .ok (.iload_n 2, 1) := by decide +kernel
theorem dX6_cut_42 : decode cX6_cut 42 = .ok (.if_icmp .ne 5, 3) := by decide +kernel
theorem dX6_cut_45 : decode cX6_cut 45 = .ok (.iconst (-1), 1) := by decide +kernel
theorem dX6_cut_46 : decode cX6_cut 46 = .ok (.ireturn, 1) := by decide +kernel
theorem dX6_cut_47 : decode cX6_cut 47 = .ok (.aload_n 3, 1) := by decide +kernel
theorem dX6_cut_48 : decode cX6_cut 48 = .ok (.getfield 197, 3) := by decide +kernel
theorem dX6_cut_51 : decode cX6_cut 51 = .ok (.ifCond .eq 6, 3) := by decide +kernel
theorem dX6_cut_54 : decode cX6_cut 54 = .ok (.bipush (-2), 2) := by decide +kernel
theorem dX6_cut_56 : decode cX6_cut 56 = .ok (.ireturn, 1) := by decide +kernel
theorem dX6_cut_57 : decode cX6_cut 57 = .ok (.aload_n 3, 1) := by decide +kernel
theorem dX6_cut_58 : decode cX6_cut 58 = .ok (.iconst 1, 1) := by decide +kernel
theorem dX6_cut_59 : decode cX6_cut 59 = .ok (.putfield 197, 3) := by decide +kernel
theorem dX6_cut_62 : decode cX6_cut 62 = .ok (.aload 4, 2) := by decide +kernel
theorem dX6_cut_64 : decode cX6_cut 64 = .ok (.iconst 1, 1) := by decide +kernel
theorem dX6_cut_65 : decode cX6_cut 65 = .ok (.putfield 197, 3) := by decide +kernel
theorem dX6_cut_68 : decode cX6_cut 68 = .ok (.aload_n 3, 1) := by decide +kernel
theorem dX6_cut_69 : decode cX6_cut 69 = .ok (.getfield 200, 3) := by decide +kernel
theorem dX6_cut_72 : decode cX6_cut 72 = .ok (.getfield 100, 3) := by decide +kernel
theorem dX6_cut_75 : decode cX6_cut 75 = .ok (.aload 4, 2) := by decide +kernel
theorem dX6_cut_77 : decode cX6_cut 77 = .ok (.getfield 200, 3) := by decide +kernel
theorem dX6_cut_80 : decode cX6_cut 80 = .ok (.getfield 100, 3) := by decide +kernel
theorem dX6_cut_83 : decode cX6_cut 83 = .ok (.iadd, 1) := by decide +kernel
theorem dX6_cut_84 : decode cX6_cut 84 = .ok (.istore 5, 2) := by decide +kernel
theorem dX6_cut_86 : decode cX6_cut 86 = .ok (.iconst 0, 1) := by decide +kernel
theorem dX6_cut_87 : decode cX6_cut 87 = .ok (.istore 6, 2) := by decide +kernel
theorem dX6_cut_89 : decode cX6_cut 89 = .ok (.iload 6, 2) := by decide +kernel
theorem dX6_cut_91 : decode cX6_cut 91 = .ok (.iload 5, 2) := by decide +kernel
theorem dX6_cut_93 : decode cX6_cut 93 = .ok (.if_icmp .ge 33, 3) := by decide +kernel
theorem dX6_cut_96 : decode cX6_cut 96 = .ok (.aload_n 0, 1) := by decide +kernel
theorem dX6_cut_97 : decode cX6_cut 97 = .ok (.aload_n 3, 1) := by decide +kernel
theorem dX6_cut_98 : decode cX6_cut 98 = .ok (.getfield 200, 3) := by decide +kernel
theorem dX6_cut_101 : decode cX6_cut 101 = .ok (.getfield 100, 3) := by decide +kernel
theorem dX6_cut_104 : decode cX6_cut 104 = .ok (.ifCond .le 7, 3) := by decide +kernel
theorem dX6_cut_107 : decode cX6_cut 107 = .ok (.aload_n 3, 1) := by decide +kernel
theorem dX6_cut_108 : decode cX6_cut 108 = .ok (.goto 5, 3) := by decide +kernel
theorem dX6_cut_111 : decode cX6_cut 111 = .ok (.aload 4, 2) := by decide +kernel
theorem dX6_cut_113 : decode cX6_cut 113 = .ok (.invokevirtual 202, 3) := by decide +kernel
theorem dX6_cut_116 : decode cX6_cut 116 = .ok (.aload_n 0, 1) := by decide +kernel
theorem dX6_cut_117 : decode cX6_cut 117 = .ok (.invokevirtual 78, 3) := by decide +kernel
theorem dX6_cut_120 : decode cX6_cut 120 = .ok (.iinc 6 1, 3) := by decide +kernel
theorem dX6_cut_123 : decode cX6_cut 123 = .ok (.goto (-34), 3) := by decide +kernel
theorem dX6_cut_126 : decode cX6_cut 126 = .ok (.iload 5, 2) := by decide +kernel
theorem dX6_cut_128 : decode cX6_cut 128 = .ok (.ireturn, 1) := by decide +kernel
theorem dX6_again_0 : decode cX6_again 0 = .ok (.aload_n 0, 1) := by decide +kernel
theorem dX6_again_1 : decode cX6_again 1 = .ok (.iload_n 1, 1) := by decide +kernel
theorem dX6_again_2 : decode cX6_again 2 = .ok (.iload_n 2, 1) := by decide +kernel
theorem dX6_again_3 : decode cX6_again 3 = .ok (.invokevirtual 176, 3) := by decide +kernel
theorem dX6_again_6 : decode cX6_again 6 = .ok (.astore_n 3, 1) := by decide +kernel
theorem dX6_again_7 : decode cX6_again 7 = .ok (.aload_n 0, 1) := by decide +kernel
theorem dX6_again_8 : decode cX6_again 8 = .ok (.iload_n 2, 1) := by decide +kernel
theorem dX6_again_9 : decode cX6_again 9 = .ok (.iload_n 1, 1) := by decide +kernel
theorem dX6_again_10 : decode cX6_again 10 = .ok (.invokevirtual 176, 3) := by decide +kernel
theorem dX6_again_13 : decode cX6_again 13 = .ok (.astore 4, 2) := by decide +kernel
theorem dX6_again_15 : decode cX6_again 15 = .ok (.aload_n 3, 1) := by decide +kernel
theorem dX6_again_16 : decode cX6_again 16 = .ok (.ifnull 13, 3) := by decide +kernel
theorem dX6_again_19 : decode cX6_again 19 = .ok (.aload 4, 2) := by decide +kernel
theorem dX6_again_21 : decode cX6_again 21 = .ok (.ifnull 8, 3) := by decide +kernel
theorem dX6_again_24 : decode cX6_again 24 = .ok (.iload_n 1, 1) := by decide +kernel
theorem dX6_again_25 : decode cX6_again 25 = .ok (.iload_n 2, 1) := by decide +kernel
theorem dX6_again_26 : decode cX6_again 26 = .ok (.if_icmp .ne 5, 3) := by decide +kernel
theorem dX6_again_29 : decode cX6_again 29 = .ok (.iconst (-1), 1) := by decide +kernel
theorem dX6_again_30 : decode cX6_again 30 = .ok (.ireturn, 1) := by decide +kernel
theorem dX6_again_31 : decode cX6_again 31 = .ok (.aload_n 3, 1) := by decide +kernel
theorem dX6_again_32 : decode cX6_again 32 = .ok (.getfield 197, 3) := by decide +kernel
theorem dX6_again_35 : decode cX6_again 35 = .ok (.ifCond .ne 6, 3) := by decide +kernel
theorem dX6_again_38 : decode cX6_again 38 = .ok (.bipush (-2), 2) := by decide +kernel
theorem dX6_again_40 : decode cX6_again 40 = .ok (.ireturn, 1) := by decide +kernel
theorem dX6_again_41 : decode cX6_again 41 = .ok (.aload_n 3, 1) := by decide +kernel
theorem dX6_again_42 : decode cX6_again 42 = .ok (.iconst 0, 1) := by decide +kernel
theorem dX6_again_43 : decode cX6_again 43 = .ok (.putfield 197, 3) := by decide +kernel
theorem dX6_again_46 : decode cX6_again 46 = .ok (.aload 4, 2) := by decide +kernel
theorem dX6_again_48 : decode cX6_again 48 = .ok (.iconst 0, 1) := by decide +kernel
theorem dX6_again_49 : decode cX6_again 49 = .ok (.putfield 197, 3) := by decide +kernel
theorem dX6_again_52 : decode cX6_again 52 = .ok (.iconst 1, 1) := by decide +kernel
theorem dX6_again_53 : decode cX6_again 53 = .ok (.ireturn, 1) := by decide +kernel
theorem dX6_wire_0 : decode cX6_wire 0 = .ok (.aload_n 0, 1) := by decide +kernel
theorem dX6_wire_1 : decode cX6_wire 1 = .ok (.iload_n 1, 1) := by decide +kernel
theorem dX6_wire_2 : decode cX6_wire 2 = .ok (.iload_n 2, 1) := by decide +kernel
theorem dX6_wire_3 : decode cX6_wire 3 = .ok (.invokevirtual 176, 3) := by decide +kernel
theorem dX6_wire_6 : decode cX6_wire 6 = .ok (.astore_n 3, 1) := by decide +kernel
theorem dX6_wire_7 : decode cX6_wire 7 = .ok (.aload_n 3, 1) := by decide +kernel
theorem dX6_wire_8 : decode cX6_wire 8 = .ok (.ifnonnull 7, 3) := by decide +kernel
theorem dX6_wire_11 : decode cX6_wire 11 = .ok (.iconst (-1), 1) := by decide +kernel
theorem dX6_wire_12 : decode cX6_wire 12 = .ok (.goto 10, 3) := by decide +kernel
theorem dX6_wire_15 : decode cX6_wire 15 = .ok (.aload_n 3, 1) := by decide +kernel
theorem dX6_wire_16 : decode cX6_wire 16 = .ok (.getfield 200, 3) := by decide +kernel
theorem dX6_wire_19 : decode cX6_wire 19 = .ok (.getfield 100, 3) := by decide +kernel
theorem dX6_wire_22 : decode cX6_wire 22 = .ok (.ireturn, 1) := by decide +kernel
theorem dX6_letter_0 : decode cX6_letter 0 = .ok (.aload_n 0, 1) := by decide +kernel
theorem dX6_letter_1 : decode cX6_letter 1 = .ok (.iload_n 1, 1) := by decide +kernel
theorem dX6_letter_2 : decode cX6_letter 2 = .ok (.iload_n 2, 1) := by decide +kernel
theorem dX6_letter_3 : decode cX6_letter 3 = .ok (.invokevirtual 176, 3) := by decide +kernel
theorem dX6_letter_6 : decode cX6_letter 6 = .ok (.astore 5, 2) := by decide +kernel
theorem dX6_letter_8 : decode cX6_letter 8 = .ok (.aload 5, 2) := by decide +kernel
theorem dX6_letter_10 : decode cX6_letter 10 = .ok (.ifnull 14, 3) := by decide +kernel
theorem dX6_letter_13 : decode cX6_letter 13 = .ok (.iload 4, 2) := by decide +kernel
theorem dX6_letter_15 : decode cX6_letter 15 = .ok (.ifCond .lt 9, 3) := by decide +kernel
theorem dX6_letter_18 : decode cX6_letter 18 = .ok (.iload 4, 2) := by decide +kernel
theorem dX6_letter_20 : decode cX6_letter 20 = .ok (.iconst 5, 1) := by decide +kernel
theorem dX6_letter_21 : decode cX6_letter 21 = .ok (.if_icmp .le 5, 3) := by decide +kernel
theorem dX6_letter_24 : decode cX6_letter 24 = .ok (.iconst (-1), 1) := by decide +kernel
theorem dX6_letter_25 : decode cX6_letter 25 = .ok (.ireturn, 1) := by decide +kernel
theorem dX6_letter_26 : decode cX6_letter 26 = .ok (.aload 5, 2) := by decide +kernel
theorem dX6_letter_28 : decode cX6_letter 28 = .ok (.getfield 200, 3) := by decide +kernel
theorem dX6_letter_31 : decode cX6_letter 31 = .ok (.iload_n 3, 1) := by decide +kernel
theorem dX6_letter_32 : decode cX6_letter 32 = .ok (.invokevirtual 206, 3) := by decide +kernel
theorem dX6_letter_35 : decode cX6_letter 35 = .ok (.astore 6, 2) := by decide +kernel
theorem dX6_letter_37 : decode cX6_letter 37 = .ok (.aload 6, 2) := by decide +kernel
theorem dX6_letter_39 : decode cX6_letter 39 = .ok (.ifnonnull 6, 3) := by decide +kernel
theorem dX6_letter_42 : decode cX6_letter 42 = .ok (.bipush (-9), 2) := by decide +kernel
theorem dX6_letter_44 : decode cX6_letter 44 = .ok (.ireturn, 1) := by decide +kernel
theorem dX6_letter_45 : decode cX6_letter 45 = .ok (.iload 4, 2) := by decide +kernel
theorem dX6_letter_47 : decode cX6_letter 47 = .ok (.tableswitch 135 0 4 #[33, 39, 61, 83, 105], 33) := by decide +kernel
theorem dX6_letter_80 : decode cX6_letter 80 = .ok (.aload 6, 2) := by decide +kernel
theorem dX6_letter_82 : decode cX6_letter 82 = .ok (.invokevirtual 210, 3) := by decide +kernel
theorem dX6_letter_85 : decode cX6_letter 85 = .ok (.ireturn, 1) := by decide +kernel
theorem dX6_letter_86 : decode cX6_letter 86 = .ok (.aload 6, 2) := by decide +kernel
theorem dX6_letter_88 : decode cX6_letter 88 = .ok (.getfield 132, 3) := by decide +kernel
theorem dX6_letter_91 : decode cX6_letter 91 = .ok (.ifnonnull 8, 3) := by decide +kernel
theorem dX6_letter_94 : decode cX6_letter 94 = .ok (.bipush (-9), 2) := by decide +kernel
theorem dX6_letter_96 : decode cX6_letter 96 = .ok (.goto 11, 3) := by decide +kernel
theorem dX6_letter_99 : decode cX6_letter 99 = .ok (.aload 6, 2) := by decide +kernel
theorem dX6_letter_101 : decode cX6_letter 101 = .ok (.getfield 132, 3) := by decide +kernel
theorem dX6_letter_104 : decode cX6_letter 104 = .ok (.getfield 139, 3) := by decide +kernel
theorem dX6_letter_107 : decode cX6_letter 107 = .ok (.ireturn, 1) := by decide +kernel
theorem dX6_letter_108 : decode cX6_letter 108 = .ok (.aload 6, 2) := by decide +kernel
theorem dX6_letter_110 : decode cX6_letter 110 = .ok (.getfield 213, 3) := by decide +kernel
theorem dX6_letter_113 : decode cX6_letter 113 = .ok (.ifCond .eq 11, 3) := by decide +kernel
theorem dX6_letter_116 : decode cX6_letter 116 = .ok (.aload 6, 2) := by decide +kernel
theorem dX6_letter_118 : decode cX6_letter 118 = .ok (.getfield 216, 3) := by decide +kernel
theorem dX6_letter_121 : decode cX6_letter 121 = .ok (.goto 8, 3) := by decide +kernel
theorem dX6_letter_124 : decode cX6_letter 124 = .ok (.aload 6, 2) := by decide +kernel
theorem dX6_letter_126 : decode cX6_letter 126 = .ok (.getfield 219, 3) := by decide +kernel
theorem dX6_letter_129 : decode cX6_letter 129 = .ok (.ireturn, 1) := by decide +kernel
theorem dX6_letter_130 : decode cX6_letter 130 = .ok (.aload 6, 2) := by decide +kernel
theorem dX6_letter_132 : decode cX6_letter 132 = .ok (.getfield 213, 3) := by decide +kernel
theorem dX6_letter_135 : decode cX6_letter 135 = .ok (.ifCond .eq 11, 3) := by decide +kernel
theorem dX6_letter_138 : decode cX6_letter 138 = .ok (.aload 6, 2) := by decide +kernel
theorem dX6_letter_140 : decode cX6_letter 140 = .ok (.getfield 222, 3) := by decide +kernel
theorem dX6_letter_143 : decode cX6_letter 143 = .ok (.goto 8, 3) := by decide +kernel
theorem dX6_letter_146 : decode cX6_letter 146 = .ok (.aload 6, 2) := by decide +kernel
theorem dX6_letter_148 : decode cX6_letter 148 = .ok (.getfield 225, 3) := by decide +kernel
theorem dX6_letter_151 : decode cX6_letter 151 = .ok (.ireturn, 1) := by decide +kernel
theorem dX6_letter_152 : decode cX6_letter 152 = .ok (.aload 6, 2) := by decide +kernel
theorem dX6_letter_154 : decode cX6_letter 154 = .ok (.getfield 213, 3) := by decide +kernel
theorem dX6_letter_157 : decode cX6_letter 157 = .ok (.ifCond .ne 11, 3) := by decide +kernel
theorem dX6_letter_160 : decode cX6_letter 160 = .ok (.aload 6, 2) := by decide +kernel
theorem dX6_letter_162 : decode cX6_letter 162 = .ok (.getfield 118, 3) := by decide +kernel
theorem dX6_letter_165 : decode cX6_letter 165 = .ok (.ifnonnull 8, 3) := by decide +kernel
theorem dX6_letter_168 : decode cX6_letter 168 = .ok (.bipush (-9), 2) := by decide +kernel
theorem dX6_letter_170 : decode cX6_letter 170 = .ok (.goto 11, 3) := by decide +kernel
theorem dX6_letter_173 : decode cX6_letter 173 = .ok (.aload 6, 2) := by decide +kernel
theorem dX6_letter_175 : decode cX6_letter 175 = .ok (.getfield 118, 3) := by decide +kernel
theorem dX6_letter_178 : decode cX6_letter 178 = .ok (.getfield 91, 3) := by decide +kernel
theorem dX6_letter_181 : decode cX6_letter 181 = .ok (.ireturn, 1) := by decide +kernel
theorem dX6_letter_182 : decode cX6_letter 182 = .ok (.aload 6, 2) := by decide +kernel
theorem dX6_letter_184 : decode cX6_letter 184 = .ok (.getfield 213, 3) := by decide +kernel
theorem dX6_letter_187 : decode cX6_letter 187 = .ok (.ifCond .ne 11, 3) := by decide +kernel
theorem dX6_letter_190 : decode cX6_letter 190 = .ok (.aload 6, 2) := by decide +kernel
theorem dX6_letter_192 : decode cX6_letter 192 = .ok (.getfield 121, 3) := by decide +kernel
theorem dX6_letter_195 : decode cX6_letter 195 = .ok (.ifnonnull 8, 3) := by decide +kernel
theorem dX6_letter_198 : decode cX6_letter 198 = .ok (.bipush (-9), 2) := by decide +kernel
theorem dX6_letter_200 : decode cX6_letter 200 = .ok (.goto 11, 3) := by decide +kernel
theorem dX6_letter_203 : decode cX6_letter 203 = .ok (.aload 6, 2) := by decide +kernel
theorem dX6_letter_205 : decode cX6_letter 205 = .ok (.getfield 121, 3) := by decide +kernel
theorem dX6_letter_208 : decode cX6_letter 208 = .ok (.getfield 139, 3) := by decide +kernel
theorem dX6_letter_211 : decode cX6_letter 211 = .ok (.ireturn, 1) := by decide +kernel
theorem dX6_purses_0 : decode cX6_purses 0 = .ok (.lconst 0, 1) := by decide +kernel
theorem dX6_purses_1 : decode cX6_purses 1 = .ok (.lstore_n 1, 1) := by decide +kernel
theorem dX6_purses_2 : decode cX6_purses 2 = .ok (.iconst 0, 1) := by decide +kernel
theorem dX6_purses_3 : decode cX6_purses 3 = .ok (.istore_n 3, 1) := by decide +kernel
theorem dX6_purses_4 : decode cX6_purses 4 = .ok (.iload_n 3, 1) := by decide +kernel
theorem dX6_purses_5 : decode cX6_purses 5 = .ok (.aload_n 0, 1) := by decide +kernel
theorem dX6_purses_6 : decode cX6_purses 6 = .ok (.getfield 228, 3) := by decide +kernel
theorem dX6_purses_9 : decode cX6_purses 9 = .ok (.if_icmp .ge 39, 3) := by decide +kernel
theorem dX6_purses_12 : decode cX6_purses 12 = .ok (.aload_n 0, 1) := by decide +kernel
theorem dX6_purses_13 : decode cX6_purses 13 = .ok (.iload_n 3, 1) := by decide +kernel
theorem dX6_purses_14 : decode cX6_purses 14 = .ok (.invokevirtual 55, 3) := by decide +kernel
theorem dX6_purses_17 : decode cX6_purses 17 = .ok (.astore 4, 2) := by decide +kernel
theorem dX6_purses_19 : decode cX6_purses 19 = .ok (.aload 4, 2) := by decide +kernel
theorem dX6_purses_21 : decode cX6_purses 21 = .ok (.ifnull 21, 3) := by decide +kernel
theorem dX6_purses_24 : decode cX6_purses 24 = .ok (.aload 4, 2) := by decide +kernel
theorem dX6_purses_26 : decode cX6_purses 26 = .ok (.getfield 59, 3) := by decide +kernel
theorem dX6_purses_29 : decode cX6_purses 29 = .ok (.iconst 1, 1) := by decide +kernel
theorem dX6_purses_30 : decode cX6_purses 30 = .ok (.if_icmp .ne 12, 3) := by decide +kernel
theorem dX6_purses_33 : decode cX6_purses 33 = .ok (.lload_n 1, 1) := by decide +kernel
theorem dX6_purses_34 : decode cX6_purses 34 = .ok (.aload 4, 2) := by decide +kernel
theorem dX6_purses_36 : decode cX6_purses 36 = .ok (.getfield 84, 3) := by decide +kernel
theorem dX6_purses_39 : decode cX6_purses 39 = .ok (.i2l, 1) := by decide +kernel
theorem dX6_purses_40 : decode cX6_purses 40 = .ok (.ladd, 1) := by decide +kernel
theorem dX6_purses_41 : decode cX6_purses 41 = .ok (.lstore_n 1, 1) := by decide +kernel
theorem dX6_purses_42 : decode cX6_purses 42 = .ok (.iinc 3 1, 3) := by decide +kernel
theorem dX6_purses_45 : decode cX6_purses 45 = .ok (.goto (-41), 3) := by decide +kernel
theorem dX6_purses_48 : decode cX6_purses 48 = .ok (.iconst 0, 1) := by decide +kernel
theorem dX6_purses_49 : decode cX6_purses 49 = .ok (.istore_n 3, 1) := by decide +kernel
theorem dX6_purses_50 : decode cX6_purses 50 = .ok (.iload_n 3, 1) := by decide +kernel
theorem dX6_purses_51 : decode cX6_purses 51 = .ok (.aload_n 0, 1) := by decide +kernel
theorem dX6_purses_52 : decode cX6_purses 52 = .ok (.getfield 29, 3) := by decide +kernel
theorem dX6_purses_55 : decode cX6_purses 55 = .ok (.arraylength, 1) := by decide +kernel
theorem dX6_purses_56 : decode cX6_purses 56 = .ok (.if_icmp .ge 34, 3) := by decide +kernel
theorem dX6_purses_59 : decode cX6_purses 59 = .ok (.lload_n 1, 1) := by decide +kernel
theorem dX6_purses_60 : decode cX6_purses 60 = .ok (.aload_n 0, 1) := by decide +kernel
theorem dX6_purses_61 : decode cX6_purses 61 = .ok (.getfield 29, 3) := by decide +kernel
theorem dX6_purses_64 : decode cX6_purses 64 = .ok (.iload_n 3, 1) := by decide +kernel
theorem dX6_purses_65 : decode cX6_purses 65 = .ok (.aaload, 1) := by decide +kernel
theorem dX6_purses_66 : decode cX6_purses 66 = .ok (.ifnonnull 7, 3) := by decide +kernel
theorem dX6_purses_69 : decode cX6_purses 69 = .ok (.lconst 0, 1) := by decide +kernel
theorem dX6_purses_70 : decode cX6_purses 70 = .ok (.goto 12, 3) := by decide +kernel
theorem dX6_purses_73 : decode cX6_purses 73 = .ok (.aload_n 0, 1) := by decide +kernel
theorem dX6_purses_74 : decode cX6_purses 74 = .ok (.getfield 29, 3) := by decide +kernel
theorem dX6_purses_77 : decode cX6_purses 77 = .ok (.iload_n 3, 1) := by decide +kernel
theorem dX6_purses_78 : decode cX6_purses 78 = .ok (.aaload, 1) := by decide +kernel
theorem dX6_purses_79 : decode cX6_purses 79 = .ok (.invokestatic 231, 3) := by decide +kernel
theorem dX6_purses_82 : decode cX6_purses 82 = .ok (.ladd, 1) := by decide +kernel
theorem dX6_purses_83 : decode cX6_purses 83 = .ok (.lstore_n 1, 1) := by decide +kernel
theorem dX6_purses_84 : decode cX6_purses 84 = .ok (.iinc 3 1, 3) := by decide +kernel
theorem dX6_purses_87 : decode cX6_purses 87 = .ok (.goto (-37), 3) := by decide +kernel
theorem dX6_purses_90 : decode cX6_purses 90 = .ok (.lload_n 1, 1) := by decide +kernel
theorem dX6_purses_91 : decode cX6_purses 91 = .ok (.lreturn, 1) := by decide +kernel
theorem dX6_count_0 : decode cX6_count 0 = .ok (.iload_n 1, 1) := by decide +kernel
theorem dX6_count_1 : decode cX6_count 1 = .ok (.tableswitch 96 0 8 #[51, 56, 61, 66, 71, 76, 81, 86, 91], 51) := by decide +kernel
theorem dX6_count_52 : decode cX6_count 52 = .ok (.aload_n 0, 1) := by decide +kernel
theorem dX6_count_53 : decode cX6_count 53 = .ok (.getfield 228, 3) := by decide +kernel
theorem dX6_count_56 : decode cX6_count 56 = .ok (.ireturn, 1) := by decide +kernel
theorem dX6_count_57 : decode cX6_count 57 = .ok (.aload_n 0, 1) := by decide +kernel
theorem dX6_count_58 : decode cX6_count 58 = .ok (.getfield 110, 3) := by decide +kernel
theorem dX6_count_61 : decode cX6_count 61 = .ok (.ireturn, 1) := by decide +kernel
theorem dX6_count_62 : decode cX6_count 62 = .ok (.aload_n 0, 1) := by decide +kernel
theorem dX6_count_63 : decode cX6_count 63 = .ok (.invokevirtual 235, 3) := by decide +kernel
theorem dX6_count_66 : decode cX6_count 66 = .ok (.ireturn, 1) := by decide +kernel
theorem dX6_count_67 : decode cX6_count 67 = .ok (.aload_n 0, 1) := by decide +kernel
theorem dX6_count_68 : decode cX6_count 68 = .ok (.invokevirtual 238, 3) := by decide +kernel
theorem dX6_count_71 : decode cX6_count 71 = .ok (.ireturn, 1) := by decide +kernel
theorem dX6_count_72 : decode cX6_count 72 = .ok (.aload_n 0, 1) := by decide +kernel
theorem dX6_count_73 : decode cX6_count 73 = .ok (.getfield 140, 3) := by decide +kernel
theorem dX6_count_76 : decode cX6_count 76 = .ok (.ireturn, 1) := by decide +kernel
theorem dX6_count_77 : decode cX6_count 77 = .ok (.aload_n 0, 1) := by decide +kernel
theorem dX6_count_78 : decode cX6_count 78 = .ok (.invokevirtual 241, 3) := by decide +kernel
theorem dX6_count_81 : decode cX6_count 81 = .ok (.ireturn, 1) := by decide +kernel
theorem dX6_count_82 : decode cX6_count 82 = .ok (.aload_n 0, 1) := by decide +kernel
theorem dX6_count_83 : decode cX6_count 83 = .ok (.invokevirtual 244, 3) := by decide +kernel
theorem dX6_count_86 : decode cX6_count 86 = .ok (.ireturn, 1) := by decide +kernel
theorem dX6_count_87 : decode cX6_count 87 = .ok (.aload_n 0, 1) := by decide +kernel
theorem dX6_count_88 : decode cX6_count 88 = .ok (.invokevirtual 247, 3) := by decide +kernel
theorem dX6_count_91 : decode cX6_count 91 = .ok (.ireturn, 1) := by decide +kernel
theorem dX6_count_92 : decode cX6_count 92 = .ok (.aload_n 0, 1) := by decide +kernel
theorem dX6_count_93 : decode cX6_count 93 = .ok (.getfield 250, 3) := by decide +kernel
theorem dX6_count_96 : decode cX6_count 96 = .ok (.ireturn, 1) := by decide +kernel
theorem dX6_count_97 : decode cX6_count 97 = .ok (.iconst (-1), 1) := by decide +kernel
theorem dX6_count_98 : decode cX6_count 98 = .ok (.ireturn, 1) := by decide +kernel
theorem dX6_trace_0 : decode cX6_trace 0 = .ok (.aload_n 0, 1) := by decide +kernel
theorem dX6_trace_1 : decode cX6_trace 1 = .ok (.getfield 253, 3) := by decide +kernel
theorem dX6_trace_4 : decode cX6_trace 4 = .ok (.lreturn, 1) := by decide +kernel
theorem dX6_isHouse_0 : decode cX6_isHouse 0 = .ok (.iload_n 0, 1) := by decide +kernel
theorem dX6_isHouse_1 : decode cX6_isHouse 1 = .ok (.ifCond .lt 12, 3) := by decide +kernel
theorem dX6_isHouse_4 : decode cX6_isHouse 4 = .ok (.iload_n 0, 1) := by decide +kernel
theorem dX6_isHouse_5 : decode cX6_isHouse 5 = .ok (.iconst 4, 1) := by decide +kernel
theorem dX6_isHouse_6 : decode cX6_isHouse 6 = .ok (.if_icmp .ge 7, 3) := by decide +kernel
theorem dX6_isHouse_9 : decode cX6_isHouse 9 = .ok (.iconst 1, 1) := by decide +kernel
theorem dX6_isHouse_10 : decode cX6_isHouse 10 = .ok (.goto 4, 3) := by decide +kernel
theorem dX6_isHouse_13 : decode cX6_isHouse 13 = .ok (.iconst 0, 1) := by decide +kernel
theorem dX6_isHouse_14 : decode cX6_isHouse 14 = .ok (.ireturn, 1) := by decide +kernel
theorem dX6_oneIf_0 : decode cX6_oneIf 0 = .ok (.iload_n 0, 1) := by decide +kernel
theorem dX6_oneIf_1 : decode cX6_oneIf 1 = .ok (.ifCond .eq 7, 3) := by decide +kernel
theorem dX6_oneIf_4 : decode cX6_oneIf 4 = .ok (.iconst 1, 1) := by decide +kernel
theorem dX6_oneIf_5 : decode cX6_oneIf 5 = .ok (.goto 4, 3) := by decide +kernel
theorem dX6_oneIf_8 : decode cX6_oneIf 8 = .ok (.iconst 0, 1) := by decide +kernel
theorem dX6_oneIf_9 : decode cX6_oneIf 9 = .ok (.ireturn, 1) := by decide +kernel
theorem dX6_thingAt_0 : decode cX6_thingAt 0 = .ok (.iload_n 1, 1) := by decide +kernel
theorem dX6_thingAt_1 : decode cX6_thingAt 1 = .ok (.ifCond .lt 20, 3) := by decide +kernel
theorem dX6_thingAt_4 : decode cX6_thingAt 4 = .ok (.iload_n 1, 1) := by decide +kernel
theorem dX6_thingAt_5 : decode cX6_thingAt 5 = .ok (.aload_n 0, 1) := by decide +kernel
theorem dX6_thingAt_6 : decode cX6_thingAt 6 = .ok (.getfield 228, 3) := by decide +kernel
theorem dX6_thingAt_9 : decode cX6_thingAt 9 = .ok (.if_icmp .ge 12, 3) := by decide +kernel
theorem dX6_thingAt_12 : decode cX6_thingAt 12 = .ok (.iload_n 1, 1) := by decide +kernel
theorem dX6_thingAt_13 : decode cX6_thingAt 13 = .ok (.aload_n 0, 1) := by decide +kernel
theorem dX6_thingAt_14 : decode cX6_thingAt 14 = .ok (.getfield 11, 3) := by decide +kernel
theorem dX6_thingAt_17 : decode cX6_thingAt 17 = .ok (.arraylength, 1) := by decide +kernel
theorem dX6_thingAt_18 : decode cX6_thingAt 18 = .ok (.if_icmp .lt 7, 3) := by decide +kernel
theorem dX6_thingAt_21 : decode cX6_thingAt 21 = .ok (.aconst_null, 1) := by decide +kernel
theorem dX6_thingAt_22 : decode cX6_thingAt 22 = .ok (.goto 9, 3) := by decide +kernel
theorem dX6_thingAt_25 : decode cX6_thingAt 25 = .ok (.aload_n 0, 1) := by decide +kernel
theorem dX6_thingAt_26 : decode cX6_thingAt 26 = .ok (.getfield 11, 3) := by decide +kernel
theorem dX6_thingAt_29 : decode cX6_thingAt 29 = .ok (.iload_n 1, 1) := by decide +kernel
theorem dX6_thingAt_30 : decode cX6_thingAt 30 = .ok (.aaload, 1) := by decide +kernel
theorem dX6_thingAt_31 : decode cX6_thingAt 31 = .ok (.areturn, 1) := by decide +kernel
theorem dX6_promiseAt_0 : decode cX6_promiseAt 0 = .ok (.iload_n 1, 1) := by decide +kernel
theorem dX6_promiseAt_1 : decode cX6_promiseAt 1 = .ok (.ifCond .lt 20, 3) := by decide +kernel
theorem dX6_promiseAt_4 : decode cX6_promiseAt 4 = .ok (.iload_n 1, 1) := by decide +kernel
theorem dX6_promiseAt_5 : decode cX6_promiseAt 5 = .ok (.aload_n 0, 1) := by decide +kernel
theorem dX6_promiseAt_6 : decode cX6_promiseAt 6 = .ok (.getfield 110, 3) := by decide +kernel
theorem dX6_promiseAt_9 : decode cX6_promiseAt 9 = .ok (.if_icmp .ge 12, 3) := by decide +kernel
theorem dX6_promiseAt_12 : decode cX6_promiseAt 12 = .ok (.iload_n 1, 1) := by decide +kernel
theorem dX6_promiseAt_13 : decode cX6_promiseAt 13 = .ok (.aload_n 0, 1) := by decide +kernel
theorem dX6_promiseAt_14 : decode cX6_promiseAt 14 = .ok (.getfield 17, 3) := by decide +kernel
theorem dX6_promiseAt_17 : decode cX6_promiseAt 17 = .ok (.arraylength, 1) := by decide +kernel
theorem dX6_promiseAt_18 : decode cX6_promiseAt 18 = .ok (.if_icmp .lt 7, 3) := by decide +kernel
theorem dX6_promiseAt_21 : decode cX6_promiseAt 21 = .ok (.aconst_null, 1) := by decide +kernel
theorem dX6_promiseAt_22 : decode cX6_promiseAt 22 = .ok (.goto 9, 3) := by decide +kernel
theorem dX6_promiseAt_25 : decode cX6_promiseAt 25 = .ok (.aload_n 0, 1) := by decide +kernel
theorem dX6_promiseAt_26 : decode cX6_promiseAt 26 = .ok (.getfield 17, 3) := by decide +kernel
theorem dX6_promiseAt_29 : decode cX6_promiseAt 29 = .ok (.iload_n 1, 1) := by decide +kernel
theorem dX6_promiseAt_30 : decode cX6_promiseAt 30 = .ok (.aaload, 1) := by decide +kernel
theorem dX6_promiseAt_31 : decode cX6_promiseAt 31 = .ok (.areturn, 1) := by decide +kernel
theorem dX6_wireAt_0 : decode cX6_wireAt 0 = .ok (.iload_n 1, 1) := by decide +kernel
theorem dX6_wireAt_1 : decode cX6_wireAt 1 = .ok (.ifCond .lt 17, 3) := by decide +kernel
theorem dX6_wireAt_4 : decode cX6_wireAt 4 = .ok (.iload_n 1, 1) := by decide +kernel
theorem dX6_wireAt_5 : decode cX6_wireAt 5 = .ok (.iconst 4, 1) := by decide +kernel
theorem dX6_wireAt_6 : decode cX6_wireAt 6 = .ok (.if_icmp .ge 12, 3) := by decide +kernel
theorem dX6_wireAt_9 : decode cX6_wireAt 9 = .ok (.iload_n 2, 1) := by decide +kernel
theorem dX6_wireAt_10 : decode cX6_wireAt 10 = .ok (.ifCond .lt 8, 3) := by decide +kernel
theorem dX6_wireAt_13 : decode cX6_wireAt 13 = .ok (.iload_n 2, 1) := by decide +kernel
theorem dX6_wireAt_14 : decode cX6_wireAt 14 = .ok (.iconst 4, 1) := by decide +kernel
theorem dX6_wireAt_15 : decode cX6_wireAt 15 = .ok (.if_icmp .lt 5, 3) := by decide +kernel
theorem dX6_wireAt_18 : decode cX6_wireAt 18 = .ok (.aconst_null, 1) := by decide +kernel
theorem dX6_wireAt_19 : decode cX6_wireAt 19 = .ok (.areturn, 1) := by decide +kernel
theorem dX6_wireAt_20 : decode cX6_wireAt 20 = .ok (.aload_n 0, 1) := by decide +kernel
theorem dX6_wireAt_21 : decode cX6_wireAt 21 = .ok (.getfield 29, 3) := by decide +kernel
theorem dX6_wireAt_24 : decode cX6_wireAt 24 = .ok (.iload_n 1, 1) := by decide +kernel
theorem dX6_wireAt_25 : decode cX6_wireAt 25 = .ok (.iconst 4, 1) := by decide +kernel
theorem dX6_wireAt_26 : decode cX6_wireAt 26 = .ok (.imul, 1) := by decide +kernel
theorem dX6_wireAt_27 : decode cX6_wireAt 27 = .ok (.iload_n 2, 1) := by decide +kernel
theorem dX6_wireAt_28 : decode cX6_wireAt 28 = .ok (.iadd, 1) := by decide +kernel
theorem dX6_wireAt_29 : decode cX6_wireAt 29 = .ok (.aaload, 1) := by decide +kernel
theorem dX6_wireAt_30 : decode cX6_wireAt 30 = .ok (.areturn, 1) := by decide +kernel
theorem dX6_firstWireWithLetters_0 : decode cX6_firstWireWithLetters 0 = .ok (.iconst 0, 1) := by decide +kernel
theorem dX6_firstWireWithLetters_1 : decode cX6_firstWireWithLetters 1 = .ok (.istore_n 1, 1) := by decide +kernel
theorem dX6_firstWireWithLetters_2 : decode cX6_firstWireWithLetters 2 = .ok (.iload_n 1, 1) := by decide +kernel
theorem dX6_firstWireWithLetters_3 : decode cX6_firstWireWithLetters 3 = .ok (.aload_n 0, 1) := by decide +kernel
theorem dX6_firstWireWithLetters_4 : decode cX6_firstWireWithLetters 4 = .ok (.getfield 29, 3) := by decide +kernel
theorem dX6_firstWireWithLetters_7 : decode cX6_firstWireWithLetters 7 = .ok (.arraylength, 1) := by decide +kernel
theorem dX6_firstWireWithLetters_8 : decode cX6_firstWireWithLetters 8 = .ok (.if_icmp .ge 32, 3) := by decide +kernel
theorem dX6_firstWireWithLetters_11 : decode cX6_firstWireWithLetters 11 = .ok (.aload_n 0, 1) := by decide +kernel
theorem dX6_firstWireWithLetters_12 : decode cX6_firstWireWithLetters 12 = .ok (.getfield 29, 3) := by decide +kernel
theorem dX6_firstWireWithLetters_15 : decode cX6_firstWireWithLetters 15 = .ok (.iload_n 1, 1) := by decide +kernel
theorem dX6_firstWireWithLetters_16 : decode cX6_firstWireWithLetters 16 = .ok (.aaload, 1) := by decide +kernel
theorem dX6_firstWireWithLetters_17 : decode cX6_firstWireWithLetters 17 = .ok (.astore_n 2, 1) := by decide +kernel
theorem dX6_firstWireWithLetters_18 : decode cX6_firstWireWithLetters 18 = .ok (.aload_n 2, 1) := by decide +kernel
theorem dX6_firstWireWithLetters_19 : decode cX6_firstWireWithLetters 19 = .ok (.ifnull 15, 3) := by decide +kernel
theorem dX6_firstWireWithLetters_22 : decode cX6_firstWireWithLetters 22 = .ok (.aload_n 2, 1) := by decide +kernel
theorem dX6_firstWireWithLetters_23 : decode cX6_firstWireWithLetters 23 = .ok (.getfield 200, 3) := by decide +kernel
theorem dX6_firstWireWithLetters_26 : decode cX6_firstWireWithLetters 26 = .ok (.getfield 100, 3) := by decide +kernel
theorem dX6_firstWireWithLetters_29 : decode cX6_firstWireWithLetters 29 = .ok (.ifCond .le 5, 3) := by decide +kernel
theorem dX6_firstWireWithLetters_32 : decode cX6_firstWireWithLetters 32 = .ok (.aload_n 2, 1) := by decide +kernel
theorem dX6_firstWireWithLetters_33 : decode cX6_firstWireWithLetters 33 = .ok (.areturn, 1) := by decide +kernel
theorem dX6_firstWireWithLetters_34 : decode cX6_firstWireWithLetters 34 = .ok (.iinc 1 1, 3) := by decide +kernel
theorem dX6_firstWireWithLetters_37 : decode cX6_firstWireWithLetters 37 = .ok (.goto (-35), 3) := by decide +kernel
theorem dX6_firstWireWithLetters_40 : decode cX6_firstWireWithLetters 40 = .ok (.aconst_null, 1) := by decide +kernel
theorem dX6_firstWireWithLetters_41 : decode cX6_firstWireWithLetters 41 = .ok (.areturn, 1) := by decide +kernel
theorem dX6_mayBegin_0 : decode cX6_mayBegin 0 = .ok (.iload_n 0, 1) := by decide +kernel
theorem dX6_mayBegin_1 : decode cX6_mayBegin 1 = .ok (.tableswitch 72 0 6 #[43, 45, 43, 72, 72, 55, 55], 43) := by decide +kernel
theorem dX6_mayBegin_44 : decode cX6_mayBegin 44 = .ok (.iconst 1, 1) := by decide +kernel
theorem dX6_mayBegin_45 : decode cX6_mayBegin 45 = .ok (.ireturn, 1) := by decide +kernel
theorem dX6_mayBegin_46 : decode cX6_mayBegin 46 = .ok (.iload_n 1, 1) := by decide +kernel
theorem dX6_mayBegin_47 : decode cX6_mayBegin 47 = .ok (.ifCond .lt 7, 3) := by decide +kernel
theorem dX6_mayBegin_50 : decode cX6_mayBegin 50 = .ok (.iconst 1, 1) := by decide +kernel
theorem dX6_mayBegin_51 : decode cX6_mayBegin 51 = .ok (.goto 4, 3) := by decide +kernel
theorem dX6_mayBegin_54 : decode cX6_mayBegin 54 = .ok (.iconst 0, 1) := by decide +kernel
theorem dX6_mayBegin_55 : decode cX6_mayBegin 55 = .ok (.ireturn, 1) := by decide +kernel
theorem dX6_mayBegin_56 : decode cX6_mayBegin 56 = .ok (.iload_n 1, 1) := by decide +kernel
theorem dX6_mayBegin_57 : decode cX6_mayBegin 57 = .ok (.iconst 1, 1) := by decide +kernel
theorem dX6_mayBegin_58 : decode cX6_mayBegin 58 = .ok (.if_icmp .lt 13, 3) := by decide +kernel
theorem dX6_mayBegin_61 : decode cX6_mayBegin 61 = .ok (.iload_n 1, 1) := by decide +kernel
theorem dX6_mayBegin_62 : decode cX6_mayBegin 62 = .ok (.bipush 20, 2) := by decide +kernel
theorem dX6_mayBegin_64 : decode cX6_mayBegin 64 = .ok (.if_icmp .gt 7, 3) := by decide +kernel
theorem dX6_mayBegin_67 : decode cX6_mayBegin 67 = .ok (.iconst 1, 1) := by decide +kernel
theorem dX6_mayBegin_68 : decode cX6_mayBegin 68 = .ok (.goto 4, 3) := by decide +kernel
theorem dX6_mayBegin_71 : decode cX6_mayBegin 71 = .ok (.iconst 0, 1) := by decide +kernel
theorem dX6_mayBegin_72 : decode cX6_mayBegin 72 = .ok (.ireturn, 1) := by decide +kernel
theorem dX6_mayBegin_73 : decode cX6_mayBegin 73 = .ok (.iconst 0, 1) := by decide +kernel
theorem dX6_mayBegin_74 : decode cX6_mayBegin 74 = .ok (.ireturn, 1) := by decide +kernel
theorem dX6_addThing_0 : decode cX6_addThing 0 = .ok (.aload_n 0, 1) := by decide +kernel
theorem dX6_addThing_1 : decode cX6_addThing 1 = .ok (.getfield 228, 3) := by decide +kernel
theorem dX6_addThing_4 : decode cX6_addThing 4 = .ok (.istore 6, 2) := by decide +kernel
theorem dX6_addThing_6 : decode cX6_addThing 6 = .ok (.iload 6, 2) := by decide +kernel
theorem dX6_addThing_8 : decode cX6_addThing 8 = .ok (.aload_n 0, 1) := by decide +kernel
theorem dX6_addThing_9 : decode cX6_addThing 9 = .ok (.getfield 11, 3) := by decide +kernel
theorem dX6_addThing_12 : decode cX6_addThing 12 = .ok (.arraylength, 1) := by decide +kernel
theorem dX6_addThing_13 : decode cX6_addThing 13 = .ok (.if_icmp .lt 6, 3) := by decide +kernel
theorem dX6_addThing_16 : decode cX6_addThing 16 = .ok (.bipush (-3), 2) := by decide +kernel
theorem dX6_addThing_18 : decode cX6_addThing 18 = .ok (.ireturn, 1) := by decide +kernel
theorem dX6_addThing_19 : decode cX6_addThing 19 = .ok (.aload_n 0, 1) := by decide +kernel
theorem dX6_addThing_20 : decode cX6_addThing 20 = .ok (.getfield 11, 3) := by decide +kernel
theorem dX6_addThing_23 : decode cX6_addThing 23 = .ok (.iload 6, 2) := by decide +kernel
theorem dX6_addThing_25 : decode cX6_addThing 25 = .ok (.new 9, 3) := by decide +kernel
theorem dX6_addThing_28 : decode cX6_addThing 28 = .ok (.dup, 1) := by decide +kernel
theorem dX6_addThing_29 : decode cX6_addThing 29 = .ok (.iload 6, 2) := by decide +kernel
theorem dX6_addThing_31 : decode cX6_addThing 31 = .ok (.iload_n 1, 1) := by decide +kernel
theorem dX6_addThing_32 : decode cX6_addThing 32 = .ok (.iload_n 2, 1) := by decide +kernel
theorem dX6_addThing_33 : decode cX6_addThing 33 = .ok (.iload_n 3, 1) := by decide +kernel
theorem dX6_addThing_34 : decode cX6_addThing 34 = .ok (.aload 4, 2) := by decide +kernel
theorem dX6_addThing_36 : decode cX6_addThing 36 = .ok (.iload 5, 2) := by decide +kernel
theorem dX6_addThing_38 : decode cX6_addThing 38 = .ok (.invokespecial 257, 3) := by decide +kernel
theorem dX6_addThing_41 : decode cX6_addThing 41 = .ok (.aastore, 1) := by decide +kernel
theorem dX6_addThing_42 : decode cX6_addThing 42 = .ok (.aload_n 0, 1) := by decide +kernel
theorem dX6_addThing_43 : decode cX6_addThing 43 = .ok (.dup, 1) := by decide +kernel
theorem dX6_addThing_44 : decode cX6_addThing 44 = .ok (.getfield 228, 3) := by decide +kernel
theorem dX6_addThing_47 : decode cX6_addThing 47 = .ok (.iconst 1, 1) := by decide +kernel
theorem dX6_addThing_48 : decode cX6_addThing 48 = .ok (.iadd, 1) := by decide +kernel
theorem dX6_addThing_49 : decode cX6_addThing 49 = .ok (.putfield 228, 3) := by decide +kernel
theorem dX6_addThing_52 : decode cX6_addThing 52 = .ok (.iload 6, 2) := by decide +kernel
theorem dX6_addThing_54 : decode cX6_addThing 54 = .ok (.ireturn, 1) := by decide +kernel
theorem dX6_hear_0 : decode cX6_hear 0 = .ok (.aload_n 1, 1) := by decide +kernel
theorem dX6_hear_1 : decode cX6_hear 1 = .ok (.getfield 59, 3) := by decide +kernel
theorem dX6_hear_4 : decode cX6_hear 4 = .ok (.tableswitch 82 1 6 #[40, 47, 54, 61, 68, 75], 40) := by decide +kernel
theorem dX6_hear_44 : decode cX6_hear 44 = .ok (.aload_n 0, 1) := by decide +kernel
theorem dX6_hear_45 : decode cX6_hear 45 = .ok (.aload_n 1, 1) := by decide +kernel
theorem dX6_hear_46 : decode cX6_hear 46 = .ok (.aload_n 2, 1) := by decide +kernel
theorem dX6_hear_47 : decode cX6_hear 47 = .ok (.invokevirtual 260, 3) := by decide +kernel
theorem dX6_hear_50 : decode cX6_hear 50 = .ok (.ireturn, 1) := by decide +kernel
theorem dX6_hear_51 : decode cX6_hear 51 = .ok (.aload_n 0, 1) := by decide +kernel
theorem dX6_hear_52 : decode cX6_hear 52 = .ok (.aload_n 1, 1) := by decide +kernel
theorem dX6_hear_53 : decode cX6_hear 53 = .ok (.aload_n 2, 1) := by decide +kernel
theorem dX6_hear_54 : decode cX6_hear 54 = .ok (.invokevirtual 264, 3) := by decide +kernel
theorem dX6_hear_57 : decode cX6_hear 57 = .ok (.ireturn, 1) := by decide +kernel
theorem dX6_hear_58 : decode cX6_hear 58 = .ok (.aload_n 0, 1) := by decide +kernel
theorem dX6_hear_59 : decode cX6_hear 59 = .ok (.aload_n 1, 1) := by decide +kernel
theorem dX6_hear_60 : decode cX6_hear 60 = .ok (.aload_n 2, 1) := by decide +kernel
theorem dX6_hear_61 : decode cX6_hear 61 = .ok (.invokevirtual 267, 3) := by decide +kernel
theorem dX6_hear_64 : decode cX6_hear 64 = .ok (.ireturn, 1) := by decide +kernel
theorem dX6_hear_65 : decode cX6_hear 65 = .ok (.aload_n 0, 1) := by decide +kernel
theorem dX6_hear_66 : decode cX6_hear 66 = .ok (.aload_n 1, 1) := by decide +kernel
theorem dX6_hear_67 : decode cX6_hear 67 = .ok (.aload_n 2, 1) := by decide +kernel
theorem dX6_hear_68 : decode cX6_hear 68 = .ok (.invokevirtual 270, 3) := by decide +kernel
theorem dX6_hear_71 : decode cX6_hear 71 = .ok (.ireturn, 1) := by decide +kernel
theorem dX6_hear_72 : decode cX6_hear 72 = .ok (.aload_n 0, 1) := by decide +kernel
theorem dX6_hear_73 : decode cX6_hear 73 = .ok (.aload_n 1, 1) := by decide +kernel
theorem dX6_hear_74 : decode cX6_hear 74 = .ok (.aload_n 2, 1) := by decide +kernel
theorem dX6_hear_75 : decode cX6_hear 75 = .ok (.invokevirtual 273, 3) := by decide +kernel
theorem dX6_hear_78 : decode cX6_hear 78 = .ok (.ireturn, 1) := by decide +kernel
theorem dX6_hear_79 : decode cX6_hear 79 = .ok (.aload_n 0, 1) := by decide +kernel
theorem dX6_hear_80 : decode cX6_hear 80 = .ok (.aload_n 1, 1) := by decide +kernel
theorem dX6_hear_81 : decode cX6_hear 81 = .ok (.aload_n 2, 1) := by decide +kernel
theorem dX6_hear_82 : decode cX6_hear 82 = .ok (.invokevirtual 276, 3) := by decide +kernel
theorem dX6_hear_85 : decode cX6_hear 85 = .ok (.ireturn, 1) := by decide +kernel
theorem dX6_hear_86 : decode cX6_hear 86 = .ok (.aload_n 0, 1) := by decide +kernel
theorem dX6_hear_87 : decode cX6_hear 87 = .ok (.aload_n 1, 1) := by decide +kernel
theorem dX6_hear_88 : decode cX6_hear 88 = .ok (.aload_n 2, 1) := by decide +kernel
theorem dX6_hear_89 : decode cX6_hear 89 = .ok (.invokevirtual 279, 3) := by decide +kernel
theorem dX6_hear_92 : decode cX6_hear 92 = .ok (.ireturn, 1) := by decide +kernel
theorem dX6_hearAsCell_0 : decode cX6_hearAsCell 0 = .ok (.aload_n 0, 1) := by decide +kernel
theorem dX6_hearAsCell_1 : decode cX6_hearAsCell 1 = .ok (.dup, 1) := by decide +kernel
theorem dX6_hearAsCell_2 : decode cX6_hearAsCell 2 = .ok (.getfield 253, 3) := by decide +kernel
theorem dX6_hearAsCell_5 : decode cX6_hearAsCell 5 = .ok (.lconst 1, 1) := by decide +kernel
theorem dX6_hearAsCell_6 : decode cX6_hearAsCell 6 = .ok (.ladd, 1) := by decide +kernel
theorem dX6_hearAsCell_7 : decode cX6_hearAsCell 7 = .ok (.putfield 253, 3) := by decide +kernel
theorem dX6_hearAsCell_10 : decode cX6_hearAsCell 10 = .ok (.aload_n 1, 1) := by decide +kernel
theorem dX6_hearAsCell_11 : decode cX6_hearAsCell 11 = .ok (.getfield 84, 3) := by decide +kernel
theorem dX6_hearAsCell_14 : decode cX6_hearAsCell 14 = .ok (.istore_n 3, 1) := by decide +kernel
theorem dX6_hearAsCell_15 : decode cX6_hearAsCell 15 = .ok (.aload_n 2, 1) := by decide +kernel
theorem dX6_hearAsCell_16 : decode cX6_hearAsCell 16 = .ok (.getfield 219, 3) := by decide +kernel
theorem dX6_hearAsCell_19 : decode cX6_hearAsCell 19 = .ok (.tableswitch 117 0 7 #[45, 52, 67, 87, 117, 117, 117, 107], 45) := by decide +kernel
theorem dX6_hearAsCell_64 : decode cX6_hearAsCell 64 = .ok (.aload_n 2, 1) := by decide +kernel
theorem dX6_hearAsCell_65 : decode cX6_hearAsCell 65 = .ok (.iconst 1, 1) := by decide +kernel
theorem dX6_hearAsCell_66 : decode cX6_hearAsCell 66 = .ok (.iload_n 3, 1) := by decide +kernel
theorem dX6_hearAsCell_67 : decode cX6_hearAsCell 67 = .ok (.invokevirtual 282, 3) := by decide +kernel
theorem dX6_hearAsCell_70 : decode cX6_hearAsCell 70 = .ok (.ireturn, 1) := by decide +kernel
theorem dX6_hearAsCell_71 : decode cX6_hearAsCell 71 = .ok (.aload_n 1, 1) := by decide +kernel
theorem dX6_hearAsCell_72 : decode cX6_hearAsCell 72 = .ok (.aload_n 2, 1) := by decide +kernel
theorem dX6_hearAsCell_73 : decode cX6_hearAsCell 73 = .ok (.getfield 225, 3) := by decide +kernel
theorem dX6_hearAsCell_76 : decode cX6_hearAsCell 76 = .ok (.putfield 84, 3) := by decide +kernel
theorem dX6_hearAsCell_79 : decode cX6_hearAsCell 79 = .ok (.aload_n 2, 1) := by decide +kernel
theorem dX6_hearAsCell_80 : decode cX6_hearAsCell 80 = .ok (.iconst 1, 1) := by decide +kernel
theorem dX6_hearAsCell_81 : decode cX6_hearAsCell 81 = .ok (.iload_n 3, 1) := by decide +kernel
theorem dX6_hearAsCell_82 : decode cX6_hearAsCell 82 = .ok (.invokevirtual 282, 3) := by decide +kernel
theorem dX6_hearAsCell_85 : decode cX6_hearAsCell 85 = .ok (.ireturn, 1) := by decide +kernel
theorem dX6_hearAsCell_86 : decode cX6_hearAsCell 86 = .ok (.aload_n 1, 1) := by decide +kernel
theorem dX6_hearAsCell_87 : decode cX6_hearAsCell 87 = .ok (.iload_n 3, 1) := by decide +kernel
theorem dX6_hearAsCell_88 : decode cX6_hearAsCell 88 = .ok (.aload_n 2, 1) := by decide +kernel
theorem dX6_hearAsCell_89 : decode cX6_hearAsCell 89 = .ok (.getfield 225, 3) := by decide +kernel
theorem dX6_hearAsCell_92 : decode cX6_hearAsCell 92 = .ok (.iadd, 1) := by decide +kernel
theorem dX6_hearAsCell_93 : decode cX6_hearAsCell 93 = .ok (.putfield 84, 3) := by decide +kernel
theorem dX6_hearAsCell_96 : decode cX6_hearAsCell 96 = .ok (.aload_n 2, 1) := by decide +kernel
theorem dX6_hearAsCell_97 : decode cX6_hearAsCell 97 = .ok (.iconst 1, 1) := by decide +kernel
theorem dX6_hearAsCell_98 : decode cX6_hearAsCell 98 = .ok (.aload_n 1, 1) := by decide +kernel
theorem dX6_hearAsCell_99 : decode cX6_hearAsCell 99 = .ok (.getfield 84, 3) := by decide +kernel
theorem dX6_hearAsCell_102 : decode cX6_hearAsCell 102 = .ok (.invokevirtual 282, 3) := by decide +kernel
theorem dX6_hearAsCell_105 : decode cX6_hearAsCell 105 = .ok (.ireturn, 1) := by decide +kernel
theorem dX6_hearAsCell_106 : decode cX6_hearAsCell 106 = .ok (.aload_n 1, 1) := by decide +kernel
theorem dX6_hearAsCell_107 : decode cX6_hearAsCell 107 = .ok (.iload_n 3, 1) := by decide +kernel
theorem dX6_hearAsCell_108 : decode cX6_hearAsCell 108 = .ok (.aload_n 2, 1) := by decide +kernel
theorem dX6_hearAsCell_109 : decode cX6_hearAsCell 109 = .ok (.getfield 225, 3) := by decide +kernel
theorem dX6_hearAsCell_112 : decode cX6_hearAsCell 112 = .ok (.isub, 1) := by decide +kernel
theorem dX6_hearAsCell_113 : decode cX6_hearAsCell 113 = .ok (.putfield 84, 3) := by decide +kernel
theorem dX6_hearAsCell_116 : decode cX6_hearAsCell 116 = .ok (.aload_n 2, 1) := by decide +kernel
theorem dX6_hearAsCell_117 : decode cX6_hearAsCell 117 = .ok (.iconst 1, 1) := by decide +kernel
theorem dX6_hearAsCell_118 : decode cX6_hearAsCell 118 = .ok (.aload_n 1, 1) := by decide +kernel
theorem dX6_hearAsCell_119 : decode cX6_hearAsCell 119 = .ok (.getfield 84, 3) := by decide +kernel
theorem dX6_hearAsCell_122 : decode cX6_hearAsCell 122 = .ok (.invokevirtual 282, 3) := by decide +kernel
theorem dX6_hearAsCell_125 : decode cX6_hearAsCell 125 = .ok (.ireturn, 1) := by decide +kernel
theorem dX6_hearAsCell_126 : decode cX6_hearAsCell 126 = .ok (.aload_n 2, 1) := by decide +kernel
theorem dX6_hearAsCell_127 : decode cX6_hearAsCell 127 = .ok (.iconst 2, 1) := by decide +kernel
theorem dX6_hearAsCell_128 : decode cX6_hearAsCell 128 = .ok (.aload_n 1, 1) := by decide +kernel
theorem dX6_hearAsCell_129 : decode cX6_hearAsCell 129 = .ok (.getfield 91, 3) := by decide +kernel
theorem dX6_hearAsCell_132 : decode cX6_hearAsCell 132 = .ok (.invokevirtual 282, 3) := by decide +kernel
theorem dX6_hearAsCell_135 : decode cX6_hearAsCell 135 = .ok (.ireturn, 1) := by decide +kernel
theorem dX6_hearAsCell_136 : decode cX6_hearAsCell 136 = .ok (.aload_n 2, 1) := by decide +kernel
theorem dX6_hearAsCell_137 : decode cX6_hearAsCell 137 = .ok (.iconst 3, 1) := by decide +kernel
theorem dX6_hearAsCell_138 : decode cX6_hearAsCell 138 = .ok (.iconst 3, 1) := by decide +kernel
theorem dX6_hearAsCell_139 : decode cX6_hearAsCell 139 = .ok (.invokevirtual 282, 3) := by decide +kernel
theorem dX6_hearAsCell_142 : decode cX6_hearAsCell 142 = .ok (.ireturn, 1) := by decide +kernel
theorem dX6_hearAsPurse_0 : decode cX6_hearAsPurse 0 = .ok (.aload_n 0, 1) := by decide +kernel
theorem dX6_hearAsPurse_1 : decode cX6_hearAsPurse 1 = .ok (.dup, 1) := by decide +kernel
theorem dX6_hearAsPurse_2 : decode cX6_hearAsPurse 2 = .ok (.getfield 253, 3) := by decide +kernel
theorem dX6_hearAsPurse_5 : decode cX6_hearAsPurse 5 = .ok (.ldc2_w 285, 3) := by decide +kernel
theorem dX6_hearAsPurse_8 : decode cX6_hearAsPurse 8 = .ok (.ladd, 1) := by decide +kernel
theorem dX6_hearAsPurse_9 : decode cX6_hearAsPurse 9 = .ok (.putfield 253, 3) := by decide +kernel
theorem dX6_hearAsPurse_12 : decode cX6_hearAsPurse 12 = .ok (.aload_n 2, 1) := by decide +kernel
theorem dX6_hearAsPurse_13 : decode cX6_hearAsPurse 13 = .ok (.getfield 219, 3) := by decide +kernel
theorem dX6_hearAsPurse_16 : decode cX6_hearAsPurse 16 = .ok (.istore_n 3, 1) := by decide +kernel
theorem dX6_hearAsPurse_17 : decode cX6_hearAsPurse 17 = .ok (.iload_n 3, 1) := by decide +kernel
theorem dX6_hearAsPurse_18 : decode cX6_hearAsPurse 18 = .ok (.iconst 2, 1) := by decide +kernel
theorem dX6_hearAsPurse_19 : decode cX6_hearAsPurse 19 = .ok (.if_icmp .eq 13, 3) := by decide +kernel
theorem dX6_hearAsPurse_22 : decode cX6_hearAsPurse 22 = .ok (.iload_n 3, 1) := by decide +kernel
theorem dX6_hearAsPurse_23 : decode cX6_hearAsPurse 23 = .ok (.iconst 3, 1) := by decide +kernel
theorem dX6_hearAsPurse_24 : decode cX6_hearAsPurse 24 = .ok (.if_icmp .eq 8, 3) := by decide +kernel
theorem dX6_hearAsPurse_27 : decode cX6_hearAsPurse 27 = .ok (.iload_n 3, 1) := by decide +kernel
theorem dX6_hearAsPurse_28 : decode cX6_hearAsPurse 28 = .ok (.iconst 4, 1) := by decide +kernel
theorem dX6_hearAsPurse_29 : decode cX6_hearAsPurse 29 = .ok (.if_icmp .ne 7, 3) := by decide +kernel
theorem dX6_hearAsPurse_32 : decode cX6_hearAsPurse 32 = .ok (.iconst 1, 1) := by decide +kernel
theorem dX6_hearAsPurse_33 : decode cX6_hearAsPurse 33 = .ok (.goto 4, 3) := by decide +kernel
theorem dX6_hearAsPurse_36 : decode cX6_hearAsPurse 36 = .ok (.iconst 0, 1) := by decide +kernel
theorem dX6_hearAsPurse_37 : decode cX6_hearAsPurse 37 = .ok (.istore 4, 2) := by decide +kernel
theorem dX6_hearAsPurse_39 : decode cX6_hearAsPurse 39 = .ok (.iload_n 3, 1) := by decide +kernel
theorem dX6_hearAsPurse_40 : decode cX6_hearAsPurse 40 = .ok (.iconst 1, 1) := by decide +kernel
theorem dX6_hearAsPurse_41 : decode cX6_hearAsPurse 41 = .ok (.if_icmp .eq 15, 3) := by decide +kernel
theorem dX6_hearAsPurse_44 : decode cX6_hearAsPurse 44 = .ok (.iload 4, 2) := by decide +kernel
theorem dX6_hearAsPurse_46 : decode cX6_hearAsPurse 46 = .ok (.ifCond .eq 17, 3) := by decide +kernel
theorem dX6_hearAsPurse_49 : decode cX6_hearAsPurse 49 = .ok (.aload_n 2, 1) := by decide +kernel
theorem dX6_hearAsPurse_50 : decode cX6_hearAsPurse 50 = .ok (.getfield 225, 3) := by decide +kernel
theorem dX6_hearAsPurse_53 : decode cX6_hearAsPurse 53 = .ok (.ifCond .ge 10, 3) := by decide +kernel
theorem dX6_hearAsPurse_56 : decode cX6_hearAsPurse 56 = .ok (.aload_n 2, 1) := by decide +kernel
theorem dX6_hearAsPurse_57 : decode cX6_hearAsPurse 57 = .ok (.iconst 3, 1) := by decide +kernel
theorem dX6_hearAsPurse_58 : decode cX6_hearAsPurse 58 = .ok (.iconst 3, 1) := by decide +kernel
theorem dX6_hearAsPurse_59 : decode cX6_hearAsPurse 59 = .ok (.invokevirtual 282, 3) := by decide +kernel
theorem dX6_hearAsPurse_62 : decode cX6_hearAsPurse 62 = .ok (.ireturn, 1) := by decide +kernel
theorem dX6_hearAsPurse_63 : decode cX6_hearAsPurse 63 = .ok (.iload_n 3, 1) := by decide +kernel
theorem dX6_hearAsPurse_64 : decode cX6_hearAsPurse 64 = .ok (.iconst 4, 1) := by decide +kernel
theorem dX6_hearAsPurse_65 : decode cX6_hearAsPurse 65 = .ok (.if_icmp .ne 28, 3) := by decide +kernel
theorem dX6_hearAsPurse_68 : decode cX6_hearAsPurse 68 = .ok (.aload_n 2, 1) := by decide +kernel
theorem dX6_hearAsPurse_69 : decode cX6_hearAsPurse 69 = .ok (.getfield 287, 3) := by decide +kernel
theorem dX6_hearAsPurse_72 : decode cX6_hearAsPurse 72 = .ok (.ifnull 14, 3) := by decide +kernel
theorem dX6_hearAsPurse_75 : decode cX6_hearAsPurse 75 = .ok (.aload_n 2, 1) := by decide +kernel
theorem dX6_hearAsPurse_76 : decode cX6_hearAsPurse 76 = .ok (.getfield 287, 3) := by decide +kernel
theorem dX6_hearAsPurse_79 : decode cX6_hearAsPurse 79 = .ok (.getfield 59, 3) := by decide +kernel
theorem dX6_hearAsPurse_82 : decode cX6_hearAsPurse 82 = .ok (.iconst 1, 1) := by decide +kernel
theorem dX6_hearAsPurse_83 : decode cX6_hearAsPurse 83 = .ok (.if_icmp .eq 10, 3) := by decide +kernel
theorem dX6_hearAsPurse_86 : decode cX6_hearAsPurse 86 = .ok (.aload_n 2, 1) := by decide +kernel
theorem dX6_hearAsPurse_87 : decode cX6_hearAsPurse 87 = .ok (.iconst 3, 1) := by decide +kernel
theorem dX6_hearAsPurse_88 : decode cX6_hearAsPurse 88 = .ok (.iconst 3, 1) := by decide +kernel
theorem dX6_hearAsPurse_89 : decode cX6_hearAsPurse 89 = .ok (.invokevirtual 282, 3) := by decide +kernel
theorem dX6_hearAsPurse_92 : decode cX6_hearAsPurse 92 = .ok (.ireturn, 1) := by decide +kernel
theorem dX6_hearAsPurse_93 : decode cX6_hearAsPurse 93 = .ok (.iload_n 3, 1) := by decide +kernel
theorem dX6_hearAsPurse_94 : decode cX6_hearAsPurse 94 = .ok (.iconst 3, 1) := by decide +kernel
theorem dX6_hearAsPurse_95 : decode cX6_hearAsPurse 95 = .ok (.if_icmp .eq 8, 3) := by decide +kernel
theorem dX6_hearAsPurse_98 : decode cX6_hearAsPurse 98 = .ok (.iload_n 3, 1) := by decide +kernel
theorem dX6_hearAsPurse_99 : decode cX6_hearAsPurse 99 = .ok (.iconst 4, 1) := by decide +kernel
theorem dX6_hearAsPurse_100 : decode cX6_hearAsPurse 100 = .ok (.if_icmp .ne 21, 3) := by decide +kernel
theorem dX6_hearAsPurse_103 : decode cX6_hearAsPurse 103 = .ok (.aload_n 2, 1) := by decide +kernel
theorem dX6_hearAsPurse_104 : decode cX6_hearAsPurse 104 = .ok (.getfield 225, 3) := by decide +kernel
theorem dX6_hearAsPurse_107 : decode cX6_hearAsPurse 107 = .ok (.aload_n 1, 1) := by decide +kernel
theorem dX6_hearAsPurse_108 : decode cX6_hearAsPurse 108 = .ok (.getfield 84, 3) := by decide +kernel
theorem dX6_hearAsPurse_111 : decode cX6_hearAsPurse 111 = .ok (.if_icmp .le 10, 3) := by decide +kernel
theorem dX6_hearAsPurse_114 : decode cX6_hearAsPurse 114 = .ok (.aload_n 2, 1) := by decide +kernel
theorem dX6_hearAsPurse_115 : decode cX6_hearAsPurse 115 = .ok (.iconst 3, 1) := by decide +kernel
theorem dX6_hearAsPurse_116 : decode cX6_hearAsPurse 116 = .ok (.iconst 2, 1) := by decide +kernel
theorem dX6_hearAsPurse_117 : decode cX6_hearAsPurse 117 = .ok (.invokevirtual 282, 3) := by decide +kernel
theorem dX6_hearAsPurse_120 : decode cX6_hearAsPurse 120 = .ok (.ireturn, 1) := by decide +kernel
theorem dX6_hearAsPurse_121 : decode cX6_hearAsPurse 121 = .ok (.iload_n 3, 1) := by decide +kernel
theorem dX6_hearAsPurse_122 : decode cX6_hearAsPurse 122 = .ok (.iconst 4, 1) := by decide +kernel
theorem dX6_hearAsPurse_123 : decode cX6_hearAsPurse 123 = .ok (.if_icmp .eq 10, 3) := by decide +kernel
theorem dX6_hearAsPurse_126 : decode cX6_hearAsPurse 126 = .ok (.aload_n 0, 1) := by decide +kernel
theorem dX6_hearAsPurse_127 : decode cX6_hearAsPurse 127 = .ok (.aload_n 1, 1) := by decide +kernel
theorem dX6_hearAsPurse_128 : decode cX6_hearAsPurse 128 = .ok (.aload_n 2, 1) := by decide +kernel
theorem dX6_hearAsPurse_129 : decode cX6_hearAsPurse 129 = .ok (.invokevirtual 279, 3) := by decide +kernel
theorem dX6_hearAsPurse_132 : decode cX6_hearAsPurse 132 = .ok (.ireturn, 1) := by decide +kernel
theorem dX6_hearAsPurse_133 : decode cX6_hearAsPurse 133 = .ok (.aload_n 1, 1) := by decide +kernel
theorem dX6_hearAsPurse_134 : decode cX6_hearAsPurse 134 = .ok (.dup, 1) := by decide +kernel
theorem dX6_hearAsPurse_135 : decode cX6_hearAsPurse 135 = .ok (.getfield 84, 3) := by decide +kernel
theorem dX6_hearAsPurse_138 : decode cX6_hearAsPurse 138 = .ok (.aload_n 2, 1) := by decide +kernel
theorem dX6_hearAsPurse_139 : decode cX6_hearAsPurse 139 = .ok (.getfield 225, 3) := by decide +kernel
theorem dX6_hearAsPurse_142 : decode cX6_hearAsPurse 142 = .ok (.isub, 1) := by decide +kernel
theorem dX6_hearAsPurse_143 : decode cX6_hearAsPurse 143 = .ok (.putfield 84, 3) := by decide +kernel
theorem dX6_hearAsPurse_146 : decode cX6_hearAsPurse 146 = .ok (.aload_n 2, 1) := by decide +kernel
theorem dX6_hearAsPurse_147 : decode cX6_hearAsPurse 147 = .ok (.iconst 2, 1) := by decide +kernel
theorem dX6_hearAsPurse_148 : decode cX6_hearAsPurse 148 = .ok (.putfield 219, 3) := by decide +kernel
theorem dX6_hearAsPurse_151 : decode cX6_hearAsPurse 151 = .ok (.aload_n 2, 1) := by decide +kernel
theorem dX6_hearAsPurse_152 : decode cX6_hearAsPurse 152 = .ok (.aload_n 2, 1) := by decide +kernel
theorem dX6_hearAsPurse_153 : decode cX6_hearAsPurse 153 = .ok (.getfield 287, 3) := by decide +kernel
theorem dX6_hearAsPurse_156 : decode cX6_hearAsPurse 156 = .ok (.putfield 118, 3) := by decide +kernel
theorem dX6_hearAsPurse_159 : decode cX6_hearAsPurse 159 = .ok (.aload_n 2, 1) := by decide +kernel
theorem dX6_hearAsPurse_160 : decode cX6_hearAsPurse 160 = .ok (.aload_n 1, 1) := by decide +kernel
theorem dX6_hearAsPurse_161 : decode cX6_hearAsPurse 161 = .ok (.putfield 290, 3) := by decide +kernel
theorem dX6_hearAsPurse_164 : decode cX6_hearAsPurse 164 = .ok (.iconst 3, 1) := by decide +kernel
theorem dX6_hearAsPurse_165 : decode cX6_hearAsPurse 165 = .ok (.ireturn, 1) := by decide +kernel
theorem dX6_hearAsMaker_0 : decode cX6_hearAsMaker 0 = .ok (.aload_n 0, 1) := by decide +kernel
theorem dX6_hearAsMaker_1 : decode cX6_hearAsMaker 1 = .ok (.dup, 1) := by decide +kernel
theorem dX6_hearAsMaker_2 : decode cX6_hearAsMaker 2 = .ok (.getfield 253, 3) := by decide +kernel
theorem dX6_hearAsMaker_5 : decode cX6_hearAsMaker 5 = .ok (.ldc2_w 293, 3) := by decide +kernel
theorem dX6_hearAsMaker_8 : decode cX6_hearAsMaker 8 = .ok (.ladd, 1) := by decide +kernel
theorem dX6_hearAsMaker_9 : decode cX6_hearAsMaker 9 = .ok (.putfield 253, 3) := by decide +kernel
theorem dX6_hearAsMaker_12 : decode cX6_hearAsMaker 12 = .ok (.aload_n 2, 1) := by decide +kernel
theorem dX6_hearAsMaker_13 : decode cX6_hearAsMaker 13 = .ok (.getfield 219, 3) := by decide +kernel
theorem dX6_hearAsMaker_16 : decode cX6_hearAsMaker 16 = .ok (.ifCond .ne 13, 3) := by decide +kernel
theorem dX6_hearAsMaker_19 : decode cX6_hearAsMaker 19 = .ok (.aload_n 2, 1) := by decide +kernel
theorem dX6_hearAsMaker_20 : decode cX6_hearAsMaker 20 = .ok (.iconst 1, 1) := by decide +kernel
theorem dX6_hearAsMaker_21 : decode cX6_hearAsMaker 21 = .ok (.aload_n 1, 1) := by decide +kernel
theorem dX6_hearAsMaker_22 : decode cX6_hearAsMaker 22 = .ok (.getfield 84, 3) := by decide +kernel
theorem dX6_hearAsMaker_25 : decode cX6_hearAsMaker 25 = .ok (.invokevirtual 282, 3) := by decide +kernel
theorem dX6_hearAsMaker_28 : decode cX6_hearAsMaker 28 = .ok (.ireturn, 1) := by decide +kernel
theorem dX6_hearAsMaker_29 : decode cX6_hearAsMaker 29 = .ok (.aload_n 2, 1) := by decide +kernel
theorem dX6_hearAsMaker_30 : decode cX6_hearAsMaker 30 = .ok (.getfield 219, 3) := by decide +kernel
theorem dX6_hearAsMaker_33 : decode cX6_hearAsMaker 33 = .ok (.bipush 7, 2) := by decide +kernel
theorem dX6_hearAsMaker_35 : decode cX6_hearAsMaker 35 = .ok (.if_icmp .ne 13, 3) := by decide +kernel
theorem dX6_hearAsMaker_38 : decode cX6_hearAsMaker 38 = .ok (.aload_n 2, 1) := by decide +kernel
theorem dX6_hearAsMaker_39 : decode cX6_hearAsMaker 39 = .ok (.iconst 2, 1) := by decide +kernel
theorem dX6_hearAsMaker_40 : decode cX6_hearAsMaker 40 = .ok (.aload_n 1, 1) := by decide +kernel
theorem dX6_hearAsMaker_41 : decode cX6_hearAsMaker 41 = .ok (.getfield 91, 3) := by decide +kernel
theorem dX6_hearAsMaker_44 : decode cX6_hearAsMaker 44 = .ok (.invokevirtual 282, 3) := by decide +kernel
theorem dX6_hearAsMaker_47 : decode cX6_hearAsMaker 47 = .ok (.ireturn, 1) := by decide +kernel
theorem dX6_hearAsMaker_48 : decode cX6_hearAsMaker 48 = .ok (.aload_n 2, 1) := by decide +kernel
theorem dX6_hearAsMaker_49 : decode cX6_hearAsMaker 49 = .ok (.getfield 219, 3) := by decide +kernel
theorem dX6_hearAsMaker_52 : decode cX6_hearAsMaker 52 = .ok (.iconst 5, 1) := by decide +kernel
theorem dX6_hearAsMaker_53 : decode cX6_hearAsMaker 53 = .ok (.if_icmp .ne 18, 3) := by decide +kernel
theorem dX6_hearAsMaker_56 : decode cX6_hearAsMaker 56 = .ok (.aload_n 2, 1) := by decide +kernel
theorem dX6_hearAsMaker_57 : decode cX6_hearAsMaker 57 = .ok (.getfield 225, 3) := by decide +kernel
theorem dX6_hearAsMaker_60 : decode cX6_hearAsMaker 60 = .ok (.ifCond .lt 11, 3) := by decide +kernel
theorem dX6_hearAsMaker_63 : decode cX6_hearAsMaker 63 = .ok (.aload_n 2, 1) := by decide +kernel
theorem dX6_hearAsMaker_64 : decode cX6_hearAsMaker 64 = .ok (.getfield 225, 3) := by decide +kernel
theorem dX6_hearAsMaker_67 : decode cX6_hearAsMaker 67 = .ok (.iconst 2, 1) := by decide +kernel
theorem dX6_hearAsMaker_68 : decode cX6_hearAsMaker 68 = .ok (.if_icmp .le 10, 3) := by decide +kernel
theorem dX6_hearAsMaker_71 : decode cX6_hearAsMaker 71 = .ok (.aload_n 2, 1) := by decide +kernel
theorem dX6_hearAsMaker_72 : decode cX6_hearAsMaker 72 = .ok (.iconst 3, 1) := by decide +kernel
theorem dX6_hearAsMaker_73 : decode cX6_hearAsMaker 73 = .ok (.iconst 3, 1) := by decide +kernel
theorem dX6_hearAsMaker_74 : decode cX6_hearAsMaker 74 = .ok (.invokevirtual 282, 3) := by decide +kernel
theorem dX6_hearAsMaker_77 : decode cX6_hearAsMaker 77 = .ok (.ireturn, 1) := by decide +kernel
theorem dX6_hearAsMaker_78 : decode cX6_hearAsMaker 78 = .ok (.aload_n 0, 1) := by decide +kernel
theorem dX6_hearAsMaker_79 : decode cX6_hearAsMaker 79 = .ok (.aload_n 1, 1) := by decide +kernel
theorem dX6_hearAsMaker_80 : decode cX6_hearAsMaker 80 = .ok (.getfield 81, 3) := by decide +kernel
theorem dX6_hearAsMaker_83 : decode cX6_hearAsMaker 83 = .ok (.aload_n 2, 1) := by decide +kernel
theorem dX6_hearAsMaker_84 : decode cX6_hearAsMaker 84 = .ok (.getfield 225, 3) := by decide +kernel
theorem dX6_hearAsMaker_87 : decode cX6_hearAsMaker 87 = .ok (.iconst 0, 1) := by decide +kernel
theorem dX6_hearAsMaker_88 : decode cX6_hearAsMaker 88 = .ok (.aconst_null, 1) := by decide +kernel
theorem dX6_hearAsMaker_89 : decode cX6_hearAsMaker 89 = .ok (.iconst 0, 1) := by decide +kernel
theorem dX6_hearAsMaker_90 : decode cX6_hearAsMaker 90 = .ok (.invokevirtual 51, 3) := by decide +kernel
theorem dX6_hearAsMaker_93 : decode cX6_hearAsMaker 93 = .ok (.istore_n 3, 1) := by decide +kernel
theorem dX6_hearAsMaker_94 : decode cX6_hearAsMaker 94 = .ok (.iload_n 3, 1) := by decide +kernel
theorem dX6_hearAsMaker_95 : decode cX6_hearAsMaker 95 = .ok (.bipush (-3), 2) := by decide +kernel
theorem dX6_hearAsMaker_97 : decode cX6_hearAsMaker 97 = .ok (.if_icmp .ne 10, 3) := by decide +kernel
theorem dX6_hearAsMaker_100 : decode cX6_hearAsMaker 100 = .ok (.aload_n 2, 1) := by decide +kernel
theorem dX6_hearAsMaker_101 : decode cX6_hearAsMaker 101 = .ok (.iconst 3, 1) := by decide +kernel
theorem dX6_hearAsMaker_102 : decode cX6_hearAsMaker 102 = .ok (.iconst 5, 1) := by decide +kernel
theorem dX6_hearAsMaker_103 : decode cX6_hearAsMaker 103 = .ok (.invokevirtual 282, 3) := by decide +kernel
theorem dX6_hearAsMaker_106 : decode cX6_hearAsMaker 106 = .ok (.ireturn, 1) := by decide +kernel
theorem dX6_hearAsMaker_107 : decode cX6_hearAsMaker 107 = .ok (.aload_n 1, 1) := by decide +kernel
theorem dX6_hearAsMaker_108 : decode cX6_hearAsMaker 108 = .ok (.dup, 1) := by decide +kernel
theorem dX6_hearAsMaker_109 : decode cX6_hearAsMaker 109 = .ok (.getfield 84, 3) := by decide +kernel
theorem dX6_hearAsMaker_112 : decode cX6_hearAsMaker 112 = .ok (.iconst 1, 1) := by decide +kernel
theorem dX6_hearAsMaker_113 : decode cX6_hearAsMaker 113 = .ok (.iadd, 1) := by decide +kernel
theorem dX6_hearAsMaker_114 : decode cX6_hearAsMaker 114 = .ok (.putfield 84, 3) := by decide +kernel
theorem dX6_hearAsMaker_117 : decode cX6_hearAsMaker 117 = .ok (.aload_n 2, 1) := by decide +kernel
theorem dX6_hearAsMaker_118 : decode cX6_hearAsMaker 118 = .ok (.iconst 2, 1) := by decide +kernel
theorem dX6_hearAsMaker_119 : decode cX6_hearAsMaker 119 = .ok (.iload_n 3, 1) := by decide +kernel
theorem dX6_hearAsMaker_120 : decode cX6_hearAsMaker 120 = .ok (.invokevirtual 282, 3) := by decide +kernel
theorem dX6_hearAsMaker_123 : decode cX6_hearAsMaker 123 = .ok (.ireturn, 1) := by decide +kernel
theorem dX6_hearAsGuard_0 : decode cX6_hearAsGuard 0 = .ok (.aload_n 0, 1) := by decide +kernel
theorem dX6_hearAsGuard_1 : decode cX6_hearAsGuard 1 = .ok (.dup, 1) := by decide +kernel
theorem dX6_hearAsGuard_2 : decode cX6_hearAsGuard 2 = .ok (.getfield 253, 3) := by decide +kernel
theorem dX6_hearAsGuard_5 : decode cX6_hearAsGuard 5 = .ok (.ldc2_w 295, 3) := by decide +kernel
theorem dX6_hearAsGuard_8 : decode cX6_hearAsGuard 8 = .ok (.ladd, 1) := by decide +kernel
theorem dX6_hearAsGuard_9 : decode cX6_hearAsGuard 9 = .ok (.putfield 253, 3) := by decide +kernel
theorem dX6_hearAsGuard_12 : decode cX6_hearAsGuard 12 = .ok (.aload_n 1, 1) := by decide +kernel
theorem dX6_hearAsGuard_13 : decode cX6_hearAsGuard 13 = .ok (.getfield 63, 3) := by decide +kernel
theorem dX6_hearAsGuard_16 : decode cX6_hearAsGuard 16 = .ok (.ifCond .eq 10, 3) := by decide +kernel
theorem dX6_hearAsGuard_19 : decode cX6_hearAsGuard 19 = .ok (.aload_n 2, 1) := by decide +kernel
theorem dX6_hearAsGuard_20 : decode cX6_hearAsGuard 20 = .ok (.iconst 3, 1) := by decide +kernel
theorem dX6_hearAsGuard_21 : decode cX6_hearAsGuard 21 = .ok (.iconst 4, 1) := by decide +kernel
theorem dX6_hearAsGuard_22 : decode cX6_hearAsGuard 22 = .ok (.invokevirtual 282, 3) := by decide +kernel
theorem dX6_hearAsGuard_25 : decode cX6_hearAsGuard 25 = .ok (.ireturn, 1) := by decide +kernel
theorem dX6_hearAsGuard_26 : decode cX6_hearAsGuard 26 = .ok (.aload_n 1, 1) := by decide +kernel
theorem dX6_hearAsGuard_27 : decode cX6_hearAsGuard 27 = .ok (.getfield 94, 3) := by decide +kernel
theorem dX6_hearAsGuard_30 : decode cX6_hearAsGuard 30 = .ok (.aload_n 2, 1) := by decide +kernel
theorem dX6_hearAsGuard_31 : decode cX6_hearAsGuard 31 = .ok (.getfield 219, 3) := by decide +kernel
theorem dX6_hearAsGuard_34 : decode cX6_hearAsGuard 34 = .ok (.ishr, 1) := by decide +kernel
theorem dX6_hearAsGuard_35 : decode cX6_hearAsGuard 35 = .ok (.iconst 1, 1) := by decide +kernel
theorem dX6_hearAsGuard_36 : decode cX6_hearAsGuard 36 = .ok (.iand, 1) := by decide +kernel
theorem dX6_hearAsGuard_37 : decode cX6_hearAsGuard 37 = .ok (.ifCond .ne 10, 3) := by decide +kernel
theorem dX6_hearAsGuard_40 : decode cX6_hearAsGuard 40 = .ok (.aload_n 2, 1) := by decide +kernel
theorem dX6_hearAsGuard_41 : decode cX6_hearAsGuard 41 = .ok (.iconst 3, 1) := by decide +kernel
theorem dX6_hearAsGuard_42 : decode cX6_hearAsGuard 42 = .ok (.iconst 3, 1) := by decide +kernel
theorem dX6_hearAsGuard_43 : decode cX6_hearAsGuard 43 = .ok (.invokevirtual 282, 3) := by decide +kernel
theorem dX6_hearAsGuard_46 : decode cX6_hearAsGuard 46 = .ok (.ireturn, 1) := by decide +kernel
theorem dX6_hearAsGuard_47 : decode cX6_hearAsGuard 47 = .ok (.aload_n 2, 1) := by decide +kernel
theorem dX6_hearAsGuard_48 : decode cX6_hearAsGuard 48 = .ok (.aload_n 1, 1) := by decide +kernel
theorem dX6_hearAsGuard_49 : decode cX6_hearAsGuard 49 = .ok (.getfield 87, 3) := by decide +kernel
theorem dX6_hearAsGuard_52 : decode cX6_hearAsGuard 52 = .ok (.putfield 118, 3) := by decide +kernel
theorem dX6_hearAsGuard_55 : decode cX6_hearAsGuard 55 = .ok (.iconst 3, 1) := by decide +kernel
theorem dX6_hearAsGuard_56 : decode cX6_hearAsGuard 56 = .ok (.ireturn, 1) := by decide +kernel
theorem dX6_hearAsSwitch_0 : decode cX6_hearAsSwitch 0 = .ok (.aload_n 0, 1) := by decide +kernel
theorem dX6_hearAsSwitch_1 : decode cX6_hearAsSwitch 1 = .ok (.dup, 1) := by decide +kernel
theorem dX6_hearAsSwitch_2 : decode cX6_hearAsSwitch 2 = .ok (.getfield 253, 3) := by decide +kernel
theorem dX6_hearAsSwitch_5 : decode cX6_hearAsSwitch 5 = .ok (.ldc2_w 297, 3) := by decide +kernel
theorem dX6_hearAsSwitch_8 : decode cX6_hearAsSwitch 8 = .ok (.ladd, 1) := by decide +kernel
theorem dX6_hearAsSwitch_9 : decode cX6_hearAsSwitch 9 = .ok (.putfield 253, 3) := by decide +kernel
theorem dX6_hearAsSwitch_12 : decode cX6_hearAsSwitch 12 = .ok (.aload_n 1, 1) := by decide +kernel
theorem dX6_hearAsSwitch_13 : decode cX6_hearAsSwitch 13 = .ok (.getfield 71, 3) := by decide +kernel
theorem dX6_hearAsSwitch_16 : decode cX6_hearAsSwitch 16 = .ok (.ifCond .eq 12, 3) := by decide +kernel
theorem dX6_hearAsSwitch_19 : decode cX6_hearAsSwitch 19 = .ok (.aload_n 2, 1) := by decide +kernel
theorem dX6_hearAsSwitch_20 : decode cX6_hearAsSwitch 20 = .ok (.iconst 3, 1) := by decide +kernel
theorem dX6_hearAsSwitch_21 : decode cX6_hearAsSwitch 21 = .ok (.iconst 4, 1) := by decide +kernel
theorem dX6_hearAsSwitch_22 : decode cX6_hearAsSwitch 22 = .ok (.invokevirtual 282, 3) := by decide +kernel
theorem dX6_hearAsSwitch_25 : decode cX6_hearAsSwitch 25 = .ok (.goto 9, 3) := by decide +kernel
theorem dX6_hearAsSwitch_28 : decode cX6_hearAsSwitch 28 = .ok (.aload_n 0, 1) := by decide +kernel
theorem dX6_hearAsSwitch_29 : decode cX6_hearAsSwitch 29 = .ok (.aload_n 1, 1) := by decide +kernel
theorem dX6_hearAsSwitch_30 : decode cX6_hearAsSwitch 30 = .ok (.aload_n 2, 1) := by decide +kernel
theorem dX6_hearAsSwitch_31 : decode cX6_hearAsSwitch 31 = .ok (.invokevirtual 267, 3) := by decide +kernel
theorem dX6_hearAsSwitch_34 : decode cX6_hearAsSwitch 34 = .ok (.ireturn, 1) := by decide +kernel
theorem dX6_hearAsJoiner_0 : decode cX6_hearAsJoiner 0 = .ok (.aload_n 0, 1) := by decide +kernel
theorem dX6_hearAsJoiner_1 : decode cX6_hearAsJoiner 1 = .ok (.dup, 1) := by decide +kernel
theorem dX6_hearAsJoiner_2 : decode cX6_hearAsJoiner 2 = .ok (.getfield 253, 3) := by decide +kernel
theorem dX6_hearAsJoiner_5 : decode cX6_hearAsJoiner 5 = .ok (.ldc2_w 299, 3) := by decide +kernel
theorem dX6_hearAsJoiner_8 : decode cX6_hearAsJoiner 8 = .ok (.ladd, 1) := by decide +kernel
theorem dX6_hearAsJoiner_9 : decode cX6_hearAsJoiner 9 = .ok (.putfield 253, 3) := by decide +kernel
theorem dX6_hearAsJoiner_12 : decode cX6_hearAsJoiner 12 = .ok (.aload_n 2, 1) := by decide +kernel
theorem dX6_hearAsJoiner_13 : decode cX6_hearAsJoiner 13 = .ok (.getfield 219, 3) := by decide +kernel
theorem dX6_hearAsJoiner_16 : decode cX6_hearAsJoiner 16 = .ok (.lookupswitch 61 #[(0, 36), (6, 59), (7, 49)], 36) := by decide +kernel
theorem dX6_hearAsJoiner_52 : decode cX6_hearAsJoiner 52 = .ok (.aload_n 2, 1) := by decide +kernel
theorem dX6_hearAsJoiner_53 : decode cX6_hearAsJoiner 53 = .ok (.iconst 1, 1) := by decide +kernel
theorem dX6_hearAsJoiner_54 : decode cX6_hearAsJoiner 54 = .ok (.aload_n 1, 1) := by decide +kernel
theorem dX6_hearAsJoiner_55 : decode cX6_hearAsJoiner 55 = .ok (.getfield 97, 3) := by decide +kernel
theorem dX6_hearAsJoiner_58 : decode cX6_hearAsJoiner 58 = .ok (.getfield 100, 3) := by decide +kernel
theorem dX6_hearAsJoiner_61 : decode cX6_hearAsJoiner 61 = .ok (.invokevirtual 282, 3) := by decide +kernel
theorem dX6_hearAsJoiner_64 : decode cX6_hearAsJoiner 64 = .ok (.ireturn, 1) := by decide +kernel
theorem dX6_hearAsJoiner_65 : decode cX6_hearAsJoiner 65 = .ok (.aload_n 2, 1) := by decide +kernel
theorem dX6_hearAsJoiner_66 : decode cX6_hearAsJoiner 66 = .ok (.iconst 2, 1) := by decide +kernel
theorem dX6_hearAsJoiner_67 : decode cX6_hearAsJoiner 67 = .ok (.aload_n 1, 1) := by decide +kernel
theorem dX6_hearAsJoiner_68 : decode cX6_hearAsJoiner 68 = .ok (.getfield 91, 3) := by decide +kernel
theorem dX6_hearAsJoiner_71 : decode cX6_hearAsJoiner 71 = .ok (.invokevirtual 282, 3) := by decide +kernel
theorem dX6_hearAsJoiner_74 : decode cX6_hearAsJoiner 74 = .ok (.ireturn, 1) := by decide +kernel
theorem dX6_hearAsJoiner_75 : decode cX6_hearAsJoiner 75 = .ok (.iconst 1, 1) := by decide +kernel
theorem dX6_hearAsJoiner_76 : decode cX6_hearAsJoiner 76 = .ok (.ireturn, 1) := by decide +kernel
theorem dX6_hearAsJoiner_77 : decode cX6_hearAsJoiner 77 = .ok (.aload_n 2, 1) := by decide +kernel
theorem dX6_hearAsJoiner_78 : decode cX6_hearAsJoiner 78 = .ok (.iconst 3, 1) := by decide +kernel
theorem dX6_hearAsJoiner_79 : decode cX6_hearAsJoiner 79 = .ok (.iconst 3, 1) := by decide +kernel
theorem dX6_hearAsJoiner_80 : decode cX6_hearAsJoiner 80 = .ok (.invokevirtual 282, 3) := by decide +kernel
theorem dX6_hearAsJoiner_83 : decode cX6_hearAsJoiner 83 = .ok (.ireturn, 1) := by decide +kernel
theorem dX6_hearAsSleeper_0 : decode cX6_hearAsSleeper 0 = .ok (.aload_n 0, 1) := by decide +kernel
theorem dX6_hearAsSleeper_1 : decode cX6_hearAsSleeper 1 = .ok (.dup, 1) := by decide +kernel
theorem dX6_hearAsSleeper_2 : decode cX6_hearAsSleeper 2 = .ok (.getfield 253, 3) := by decide +kernel
theorem dX6_hearAsSleeper_5 : decode cX6_hearAsSleeper 5 = .ok (.ldc2_w 301, 3) := by decide +kernel
theorem dX6_hearAsSleeper_8 : decode cX6_hearAsSleeper 8 = .ok (.ladd, 1) := by decide +kernel
theorem dX6_hearAsSleeper_9 : decode cX6_hearAsSleeper 9 = .ok (.putfield 253, 3) := by decide +kernel
theorem dX6_hearAsSleeper_12 : decode cX6_hearAsSleeper 12 = .ok (.aload_n 2, 1) := by decide +kernel
theorem dX6_hearAsSleeper_13 : decode cX6_hearAsSleeper 13 = .ok (.getfield 219, 3) := by decide +kernel
theorem dX6_hearAsSleeper_16 : decode cX6_hearAsSleeper 16 = .ok (.bipush 6, 2) := by decide +kernel
theorem dX6_hearAsSleeper_18 : decode cX6_hearAsSleeper 18 = .ok (.if_icmp .ne 7, 3) := by decide +kernel
theorem dX6_hearAsSleeper_21 : decode cX6_hearAsSleeper 21 = .ok (.iconst 1, 1) := by decide +kernel
theorem dX6_hearAsSleeper_22 : decode cX6_hearAsSleeper 22 = .ok (.goto 9, 3) := by decide +kernel
theorem dX6_hearAsSleeper_25 : decode cX6_hearAsSleeper 25 = .ok (.aload_n 0, 1) := by decide +kernel
theorem dX6_hearAsSleeper_26 : decode cX6_hearAsSleeper 26 = .ok (.aload_n 1, 1) := by decide +kernel
theorem dX6_hearAsSleeper_27 : decode cX6_hearAsSleeper 27 = .ok (.aload_n 2, 1) := by decide +kernel
theorem dX6_hearAsSleeper_28 : decode cX6_hearAsSleeper 28 = .ok (.invokevirtual 273, 3) := by decide +kernel
theorem dX6_hearAsSleeper_31 : decode cX6_hearAsSleeper 31 = .ok (.ireturn, 1) := by decide +kernel
theorem dX6_takeTurn_0 : decode cX6_takeTurn 0 = .ok (.aload_n 0, 1) := by decide +kernel
theorem dX6_takeTurn_1 : decode cX6_takeTurn 1 = .ok (.dup, 1) := by decide +kernel
theorem dX6_takeTurn_2 : decode cX6_takeTurn 2 = .ok (.getfield 250, 3) := by decide +kernel
theorem dX6_takeTurn_5 : decode cX6_takeTurn 5 = .ok (.iconst 1, 1) := by decide +kernel
theorem dX6_takeTurn_6 : decode cX6_takeTurn 6 = .ok (.iadd, 1) := by decide +kernel
theorem dX6_takeTurn_7 : decode cX6_takeTurn 7 = .ok (.putfield 250, 3) := by decide +kernel
theorem dX6_takeTurn_10 : decode cX6_takeTurn 10 = .ok (.aload_n 0, 1) := by decide +kernel
theorem dX6_takeTurn_11 : decode cX6_takeTurn 11 = .ok (.aload_n 1, 1) := by decide +kernel
theorem dX6_takeTurn_12 : decode cX6_takeTurn 12 = .ok (.aload_n 2, 1) := by decide +kernel
theorem dX6_takeTurn_13 : decode cX6_takeTurn 13 = .ok (.invokevirtual 303, 3) := by decide +kernel
theorem dX6_takeTurn_16 : decode cX6_takeTurn 16 = .ok (.lookupswitch 49 #[(1, 40), (3, 28)], 28) := by decide +kernel
theorem dX6_takeTurn_44 : decode cX6_takeTurn 44 = .ok (.aload_n 0, 1) := by decide +kernel
theorem dX6_takeTurn_45 : decode cX6_takeTurn 45 = .ok (.aload_n 2, 1) := by decide +kernel
theorem dX6_takeTurn_46 : decode cX6_takeTurn 46 = .ok (.aload_n 1, 1) := by decide +kernel
theorem dX6_takeTurn_47 : decode cX6_takeTurn 47 = .ok (.getfield 81, 3) := by decide +kernel
theorem dX6_takeTurn_50 : decode cX6_takeTurn 50 = .ok (.invokevirtual 135, 3) := by decide +kernel
theorem dX6_takeTurn_53 : decode cX6_takeTurn 53 = .ok (.goto 21, 3) := by decide +kernel
theorem dX6_takeTurn_56 : decode cX6_takeTurn 56 = .ok (.aload_n 0, 1) := by decide +kernel
theorem dX6_takeTurn_57 : decode cX6_takeTurn 57 = .ok (.aload_n 1, 1) := by decide +kernel
theorem dX6_takeTurn_58 : decode cX6_takeTurn 58 = .ok (.aload_n 2, 1) := by decide +kernel
theorem dX6_takeTurn_59 : decode cX6_takeTurn 59 = .ok (.invokevirtual 306, 3) := by decide +kernel
theorem dX6_takeTurn_62 : decode cX6_takeTurn 62 = .ok (.goto 12, 3) := by decide +kernel
theorem dX6_takeTurn_65 : decode cX6_takeTurn 65 = .ok (.aload_n 0, 1) := by decide +kernel
theorem dX6_takeTurn_66 : decode cX6_takeTurn 66 = .ok (.aload_n 2, 1) := by decide +kernel
theorem dX6_takeTurn_67 : decode cX6_takeTurn 67 = .ok (.aload_n 1, 1) := by decide +kernel
theorem dX6_takeTurn_68 : decode cX6_takeTurn 68 = .ok (.getfield 81, 3) := by decide +kernel
theorem dX6_takeTurn_71 : decode cX6_takeTurn 71 = .ok (.invokevirtual 310, 3) := by decide +kernel
theorem dX6_takeTurn_74 : decode cX6_takeTurn 74 = .ok (.return_, 1) := by decide +kernel
theorem dX6_hold_0 : decode cX6_hold 0 = .ok (.aload_n 2, 1) := by decide +kernel
theorem dX6_hold_1 : decode cX6_hold 1 = .ok (.iconst 1, 1) := by decide +kernel
theorem dX6_hold_2 : decode cX6_hold 2 = .ok (.putfield 173, 3) := by decide +kernel
theorem dX6_hold_5 : decode cX6_hold 5 = .ok (.aload_n 1, 1) := by decide +kernel
theorem dX6_hold_6 : decode cX6_hold 6 = .ok (.getfield 97, 3) := by decide +kernel
theorem dX6_hold_9 : decode cX6_hold 9 = .ok (.aload_n 2, 1) := by decide +kernel
theorem dX6_hold_10 : decode cX6_hold 10 = .ok (.invokevirtual 313, 3) := by decide +kernel
theorem dX6_hold_13 : decode cX6_hold 13 = .ok (.aload_n 1, 1) := by decide +kernel
theorem dX6_hold_14 : decode cX6_hold 14 = .ok (.getfield 59, 3) := by decide +kernel
theorem dX6_hold_17 : decode cX6_hold 17 = .ok (.iconst 5, 1) := by decide +kernel
theorem dX6_hold_18 : decode cX6_hold 18 = .ok (.if_icmp .ne 30, 3) := by decide +kernel
theorem dX6_hold_21 : decode cX6_hold 21 = .ok (.aload_n 1, 1) := by decide +kernel
theorem dX6_hold_22 : decode cX6_hold 22 = .ok (.getfield 97, 3) := by decide +kernel
theorem dX6_hold_25 : decode cX6_hold 25 = .ok (.getfield 100, 3) := by decide +kernel
theorem dX6_hold_28 : decode cX6_hold 28 = .ok (.aload_n 1, 1) := by decide +kernel
theorem dX6_hold_29 : decode cX6_hold 29 = .ok (.getfield 84, 3) := by decide +kernel
theorem dX6_hold_32 : decode cX6_hold 32 = .ok (.if_icmp .lt 16, 3) := by decide +kernel
theorem dX6_hold_35 : decode cX6_hold 35 = .ok (.aload_n 0, 1) := by decide +kernel
theorem dX6_hold_36 : decode cX6_hold 36 = .ok (.aload_n 1, 1) := by decide +kernel
theorem dX6_hold_37 : decode cX6_hold 37 = .ok (.aload_n 1, 1) := by decide +kernel
theorem dX6_hold_38 : decode cX6_hold 38 = .ok (.getfield 97, 3) := by decide +kernel
theorem dX6_hold_41 : decode cX6_hold 41 = .ok (.invokevirtual 317, 3) := by decide +kernel
theorem dX6_hold_44 : decode cX6_hold 44 = .ok (.invokevirtual 74, 3) := by decide +kernel
theorem dX6_hold_47 : decode cX6_hold 47 = .ok (.pop, 1) := by decide +kernel
theorem dX6_hold_48 : decode cX6_hold 48 = .ok (.return_, 1) := by decide +kernel
theorem dX6_answerHeld_0 : decode cX6_answerHeld 0 = .ok (.aload_n 1, 1) := by decide +kernel
theorem dX6_answerHeld_1 : decode cX6_answerHeld 1 = .ok (.getfield 97, 3) := by decide +kernel
theorem dX6_answerHeld_4 : decode cX6_answerHeld 4 = .ok (.getfield 100, 3) := by decide +kernel
theorem dX6_answerHeld_7 : decode cX6_answerHeld 7 = .ok (.istore_n 3, 1) := by decide +kernel
theorem dX6_answerHeld_8 : decode cX6_answerHeld 8 = .ok (.iconst 0, 1) := by decide +kernel
theorem dX6_answerHeld_9 : decode cX6_answerHeld 9 = .ok (.istore 4, 2) := by decide +kernel
theorem dX6_answerHeld_11 : decode cX6_answerHeld 11 = .ok (.iload 4, 2) := by decide +kernel
theorem dX6_answerHeld_13 : decode cX6_answerHeld 13 = .ok (.iload_n 3, 1) := by decide +kernel
theorem dX6_answerHeld_14 : decode cX6_answerHeld 14 = .ok (.if_icmp .ge 41, 3) := by decide +kernel
theorem dX6_answerHeld_17 : decode cX6_answerHeld 17 = .ok (.aload_n 1, 1) := by decide +kernel
theorem dX6_answerHeld_18 : decode cX6_answerHeld 18 = .ok (.getfield 97, 3) := by decide +kernel
theorem dX6_answerHeld_21 : decode cX6_answerHeld 21 = .ok (.invokevirtual 320, 3) := by decide +kernel
theorem dX6_answerHeld_24 : decode cX6_answerHeld 24 = .ok (.astore 5, 2) := by decide +kernel
theorem dX6_answerHeld_26 : decode cX6_answerHeld 26 = .ok (.aload 5, 2) := by decide +kernel
theorem dX6_answerHeld_28 : decode cX6_answerHeld 28 = .ok (.ifnull 21, 3) := by decide +kernel
theorem dX6_answerHeld_31 : decode cX6_answerHeld 31 = .ok (.aload 5, 2) := by decide +kernel
theorem dX6_answerHeld_33 : decode cX6_answerHeld 33 = .ok (.iconst 1, 1) := by decide +kernel
theorem dX6_answerHeld_34 : decode cX6_answerHeld 34 = .ok (.iload_n 2, 1) := by decide +kernel
theorem dX6_answerHeld_35 : decode cX6_answerHeld 35 = .ok (.invokevirtual 282, 3) := by decide +kernel
theorem dX6_answerHeld_38 : decode cX6_answerHeld 38 = .ok (.pop, 1) := by decide +kernel
theorem dX6_answerHeld_39 : decode cX6_answerHeld 39 = .ok (.aload_n 0, 1) := by decide +kernel
theorem dX6_answerHeld_40 : decode cX6_answerHeld 40 = .ok (.aload 5, 2) := by decide +kernel
theorem dX6_answerHeld_42 : decode cX6_answerHeld 42 = .ok (.aload_n 1, 1) := by decide +kernel
theorem dX6_answerHeld_43 : decode cX6_answerHeld 43 = .ok (.getfield 81, 3) := by decide +kernel
theorem dX6_answerHeld_46 : decode cX6_answerHeld 46 = .ok (.invokevirtual 310, 3) := by decide +kernel
theorem dX6_answerHeld_49 : decode cX6_answerHeld 49 = .ok (.iinc 4 1, 3) := by decide +kernel
theorem dX6_answerHeld_52 : decode cX6_answerHeld 52 = .ok (.goto (-41), 3) := by decide +kernel
theorem dX6_answerHeld_55 : decode cX6_answerHeld 55 = .ok (.iload_n 3, 1) := by decide +kernel
theorem dX6_answerHeld_56 : decode cX6_answerHeld 56 = .ok (.ireturn, 1) := by decide +kernel
theorem dX6_post_0 : decode cX6_post 0 = .ok (.aload_n 1, 1) := by decide +kernel
theorem dX6_post_1 : decode cX6_post 1 = .ok (.dup, 1) := by decide +kernel
theorem dX6_post_2 : decode cX6_post 2 = .ok (.getfield 170, 3) := by decide +kernel
theorem dX6_post_5 : decode cX6_post 5 = .ok (.iconst 1, 1) := by decide +kernel
theorem dX6_post_6 : decode cX6_post 6 = .ok (.iadd, 1) := by decide +kernel
theorem dX6_post_7 : decode cX6_post 7 = .ok (.putfield 170, 3) := by decide +kernel
theorem dX6_post_10 : decode cX6_post 10 = .ok (.aload_n 0, 1) := by decide +kernel
theorem dX6_post_11 : decode cX6_post 11 = .ok (.iload_n 2, 1) := by decide +kernel
theorem dX6_post_12 : decode cX6_post 12 = .ok (.iload_n 3, 1) := by decide +kernel
theorem dX6_post_13 : decode cX6_post 13 = .ok (.invokevirtual 176, 3) := by decide +kernel
theorem dX6_post_16 : decode cX6_post 16 = .ok (.astore 4, 2) := by decide +kernel
theorem dX6_post_18 : decode cX6_post 18 = .ok (.aload 4, 2) := by decide +kernel
theorem dX6_post_20 : decode cX6_post 20 = .ok (.ifnull 11, 3) := by decide +kernel
theorem dX6_post_23 : decode cX6_post 23 = .ok (.aload 4, 2) := by decide +kernel
theorem dX6_post_25 : decode cX6_post 25 = .ok (.getfield 197, 3) := by decide +kernel
theorem dX6_post_28 : decode cX6_post 28 = .ok (.ifCond .eq 5, 3) := by decide +kernel
theorem dX6_post_31 : decode cX6_post 31 = .ok (.iconst 0, 1) := by decide +kernel
theorem dX6_post_32 : decode cX6_post 32 = .ok (.ireturn, 1) := by decide +kernel
theorem dX6_post_33 : decode cX6_post 33 = .ok (.aload 4, 2) := by decide +kernel
theorem dX6_post_35 : decode cX6_post 35 = .ok (.getfield 200, 3) := by decide +kernel
theorem dX6_post_38 : decode cX6_post 38 = .ok (.aload_n 1, 1) := by decide +kernel
theorem dX6_post_39 : decode cX6_post 39 = .ok (.invokevirtual 313, 3) := by decide +kernel
theorem dX6_post_42 : decode cX6_post 42 = .ok (.iconst 1, 1) := by decide +kernel
theorem dX6_post_43 : decode cX6_post 43 = .ok (.ireturn, 1) := by decide +kernel
theorem dX6_send_0 : decode cX6_send 0 = .ok (.aload_n 1, 1) := by decide +kernel
theorem dX6_send_1 : decode cX6_send 1 = .ok (.iconst 3, 1) := by decide +kernel
theorem dX6_send_2 : decode cX6_send 2 = .ok (.putfield 173, 3) := by decide +kernel
theorem dX6_send_5 : decode cX6_send 5 = .ok (.aload_n 0, 1) := by decide +kernel
theorem dX6_send_6 : decode cX6_send 6 = .ok (.aload_n 1, 1) := by decide +kernel
theorem dX6_send_7 : decode cX6_send 7 = .ok (.iload_n 2, 1) := by decide +kernel
theorem dX6_send_8 : decode cX6_send 8 = .ok (.aload_n 1, 1) := by decide +kernel
theorem dX6_send_9 : decode cX6_send 9 = .ok (.invokevirtual 125, 3) := by decide +kernel
theorem dX6_send_12 : decode cX6_send 12 = .ok (.invokevirtual 324, 3) := by decide +kernel
theorem dX6_send_15 : decode cX6_send 15 = .ok (.ifCond .ne 13, 3) := by decide +kernel
theorem dX6_send_18 : decode cX6_send 18 = .ok (.aload_n 1, 1) := by decide +kernel
theorem dX6_send_19 : decode cX6_send 19 = .ok (.invokevirtual 328, 3) := by decide +kernel
theorem dX6_send_22 : decode cX6_send 22 = .ok (.aload_n 0, 1) := by decide +kernel
theorem dX6_send_23 : decode cX6_send 23 = .ok (.aload_n 1, 1) := by decide +kernel
theorem dX6_send_24 : decode cX6_send 24 = .ok (.iload_n 2, 1) := by decide +kernel
theorem dX6_send_25 : decode cX6_send 25 = .ok (.invokevirtual 310, 3) := by decide +kernel
theorem dX6_send_28 : decode cX6_send 28 = .ok (.return_, 1) := by decide +kernel
theorem dX6_settle_0 : decode cX6_settle 0 = .ok (.aload_n 1, 1) := by decide +kernel
theorem dX6_settle_1 : decode cX6_settle 1 = .ok (.iconst 0, 1) := by decide +kernel
theorem dX6_settle_2 : decode cX6_settle 2 = .ok (.putfield 173, 3) := by decide +kernel
theorem dX6_settle_5 : decode cX6_settle 5 = .ok (.aload_n 1, 1) := by decide +kernel
theorem dX6_settle_6 : decode cX6_settle 6 = .ok (.getfield 132, 3) := by decide +kernel
theorem dX6_settle_9 : decode cX6_settle 9 = .ok (.astore_n 3, 1) := by decide +kernel
theorem dX6_settle_10 : decode cX6_settle 10 = .ok (.aload_n 3, 1) := by decide +kernel
theorem dX6_settle_11 : decode cX6_settle 11 = .ok (.ifnonnull 4, 3) := by decide +kernel
theorem dX6_settle_14 : decode cX6_settle 14 = .ok (.return_, 1) := by decide +kernel
theorem dX6_settle_15 : decode cX6_settle 15 = .ok (.aload_n 1, 1) := by decide +kernel
theorem dX6_settle_16 : decode cX6_settle 16 = .ok (.iconst 1, 1) := by decide +kernel
theorem dX6_settle_17 : decode cX6_settle 17 = .ok (.putfield 213, 3) := by decide +kernel
theorem dX6_settle_20 : decode cX6_settle 20 = .ok (.iload_n 2, 1) := by decide +kernel
theorem dX6_settle_21 : decode cX6_settle 21 = .ok (.aload_n 3, 1) := by decide +kernel
theorem dX6_settle_22 : decode cX6_settle 22 = .ok (.getfield 160, 3) := by decide +kernel
theorem dX6_settle_25 : decode cX6_settle 25 = .ok (.if_icmp .ne 14, 3) := by decide +kernel
theorem dX6_settle_28 : decode cX6_settle 28 = .ok (.aload_n 0, 1) := by decide +kernel
theorem dX6_settle_29 : decode cX6_settle 29 = .ok (.getfield 36, 3) := by decide +kernel
theorem dX6_settle_32 : decode cX6_settle 32 = .ok (.aload_n 1, 1) := by decide +kernel
theorem dX6_settle_33 : decode cX6_settle 33 = .ok (.invokevirtual 313, 3) := by decide +kernel
theorem dX6_settle_36 : decode cX6_settle 36 = .ok (.goto 28, 3) := by decide +kernel
theorem dX6_settle_39 : decode cX6_settle 39 = .ok (.aload_n 0, 1) := by decide +kernel
theorem dX6_settle_40 : decode cX6_settle 40 = .ok (.aload_n 1, 1) := by decide +kernel
theorem dX6_settle_41 : decode cX6_settle 41 = .ok (.iload_n 2, 1) := by decide +kernel
theorem dX6_settle_42 : decode cX6_settle 42 = .ok (.aload_n 3, 1) := by decide +kernel
theorem dX6_settle_43 : decode cX6_settle 43 = .ok (.getfield 160, 3) := by decide +kernel
theorem dX6_settle_46 : decode cX6_settle 46 = .ok (.invokevirtual 324, 3) := by decide +kernel
theorem dX6_settle_49 : decode cX6_settle 49 = .ok (.ifCond .ne 15, 3) := by decide +kernel
theorem dX6_settle_52 : decode cX6_settle 52 = .ok (.aload_n 1, 1) := by decide +kernel
theorem dX6_settle_53 : decode cX6_settle 53 = .ok (.invokevirtual 328, 3) := by decide +kernel
theorem dX6_settle_56 : decode cX6_settle 56 = .ok (.aload_n 0, 1) := by decide +kernel
theorem dX6_settle_57 : decode cX6_settle 57 = .ok (.getfield 36, 3) := by decide +kernel
theorem dX6_settle_60 : decode cX6_settle 60 = .ok (.aload_n 1, 1) := by decide +kernel
theorem dX6_settle_61 : decode cX6_settle 61 = .ok (.invokevirtual 313, 3) := by decide +kernel
theorem dX6_settle_64 : decode cX6_settle 64 = .ok (.return_, 1) := by decide +kernel
theorem dX6_doAll_0 : decode cX6_doAll 0 = .ok (.iconst 0, 1) := by decide +kernel
theorem dX6_doAll_1 : decode cX6_doAll 1 = .ok (.istore_n 1, 1) := by decide +kernel
theorem dX6_doAll_2 : decode cX6_doAll 2 = .ok (.iload_n 1, 1) := by decide +kernel
theorem dX6_doAll_3 : decode cX6_doAll 3 = .ok (.sipush 1000, 3) := by decide +kernel
theorem dX6_doAll_6 : decode cX6_doAll 6 = .ok (.if_icmp .ge 47, 3) := by decide +kernel
theorem dX6_doAll_9 : decode cX6_doAll 9 = .ok (.aload_n 0, 1) := by decide +kernel
theorem dX6_doAll_10 : decode cX6_doAll 10 = .ok (.getfield 36, 3) := by decide +kernel
theorem dX6_doAll_13 : decode cX6_doAll 13 = .ok (.getfield 100, 3) := by decide +kernel
theorem dX6_doAll_16 : decode cX6_doAll 16 = .ok (.ifCond .le 37, 3) := by decide +kernel
theorem dX6_doAll_19 : decode cX6_doAll 19 = .ok (.aload_n 0, 1) := by decide +kernel
theorem dX6_doAll_20 : decode cX6_doAll 20 = .ok (.getfield 36, 3) := by decide +kernel
theorem dX6_doAll_23 : decode cX6_doAll 23 = .ok (.invokevirtual 320, 3) := by decide +kernel
theorem dX6_doAll_26 : decode cX6_doAll 26 = .ok (.astore_n 2, 1) := by decide +kernel
theorem dX6_doAll_27 : decode cX6_doAll 27 = .ok (.aload_n 2, 1) := by decide +kernel
theorem dX6_doAll_28 : decode cX6_doAll 28 = .ok (.ifnull 19, 3) := by decide +kernel
theorem dX6_doAll_31 : decode cX6_doAll 31 = .ok (.aload_n 2, 1) := by decide +kernel
theorem dX6_doAll_32 : decode cX6_doAll 32 = .ok (.getfield 132, 3) := by decide +kernel
theorem dX6_doAll_35 : decode cX6_doAll 35 = .ok (.ifnull 12, 3) := by decide +kernel
theorem dX6_doAll_38 : decode cX6_doAll 38 = .ok (.aload_n 0, 1) := by decide +kernel
theorem dX6_doAll_39 : decode cX6_doAll 39 = .ok (.aload_n 2, 1) := by decide +kernel
theorem dX6_doAll_40 : decode cX6_doAll 40 = .ok (.getfield 132, 3) := by decide +kernel
theorem dX6_doAll_43 : decode cX6_doAll 43 = .ok (.aload_n 2, 1) := by decide +kernel
theorem dX6_doAll_44 : decode cX6_doAll 44 = .ok (.invokevirtual 331, 3) := by decide +kernel
theorem dX6_doAll_47 : decode cX6_doAll 47 = .ok (.iinc 1 1, 3) := by decide +kernel
theorem dX6_doAll_50 : decode cX6_doAll 50 = .ok (.goto (-48), 3) := by decide +kernel
theorem dX6_doAll_53 : decode cX6_doAll 53 = .ok (.return_, 1) := by decide +kernel
theorem dX6_fulfil_0 : decode cX6_fulfil 0 = .ok (.aload_n 1, 1) := by decide +kernel
theorem dX6_fulfil_1 : decode cX6_fulfil 1 = .ok (.aload_n 2, 1) := by decide +kernel
theorem dX6_fulfil_2 : decode cX6_fulfil 2 = .ok (.getfield 216, 3) := by decide +kernel
theorem dX6_fulfil_5 : decode cX6_fulfil 5 = .ok (.putfield 335, 3) := by decide +kernel
theorem dX6_fulfil_8 : decode cX6_fulfil 8 = .ok (.aload_n 1, 1) := by decide +kernel
theorem dX6_fulfil_9 : decode cX6_fulfil 9 = .ok (.aload_n 2, 1) := by decide +kernel
theorem dX6_fulfil_10 : decode cX6_fulfil 10 = .ok (.getfield 222, 3) := by decide +kernel
theorem dX6_fulfil_13 : decode cX6_fulfil 13 = .ok (.putfield 338, 3) := by decide +kernel
theorem dX6_fulfil_16 : decode cX6_fulfil 16 = .ok (.aload_n 1, 1) := by decide +kernel
theorem dX6_fulfil_17 : decode cX6_fulfil 17 = .ok (.getfield 163, 3) := by decide +kernel
theorem dX6_fulfil_20 : decode cX6_fulfil 20 = .ok (.getfield 100, 3) := by decide +kernel
theorem dX6_fulfil_23 : decode cX6_fulfil 23 = .ok (.istore_n 3, 1) := by decide +kernel
theorem dX6_fulfil_24 : decode cX6_fulfil 24 = .ok (.iconst 0, 1) := by decide +kernel
theorem dX6_fulfil_25 : decode cX6_fulfil 25 = .ok (.istore 4, 2) := by decide +kernel
theorem dX6_fulfil_27 : decode cX6_fulfil 27 = .ok (.iload 4, 2) := by decide +kernel
theorem dX6_fulfil_29 : decode cX6_fulfil 29 = .ok (.iload_n 3, 1) := by decide +kernel
theorem dX6_fulfil_30 : decode cX6_fulfil 30 = .ok (.if_icmp .ge 30, 3) := by decide +kernel
theorem dX6_fulfil_33 : decode cX6_fulfil 33 = .ok (.aload_n 1, 1) := by decide +kernel
theorem dX6_fulfil_34 : decode cX6_fulfil 34 = .ok (.getfield 163, 3) := by decide +kernel
theorem dX6_fulfil_37 : decode cX6_fulfil 37 = .ok (.invokevirtual 320, 3) := by decide +kernel
theorem dX6_fulfil_40 : decode cX6_fulfil 40 = .ok (.astore 5, 2) := by decide +kernel
theorem dX6_fulfil_42 : decode cX6_fulfil 42 = .ok (.aload 5, 2) := by decide +kernel
theorem dX6_fulfil_44 : decode cX6_fulfil 44 = .ok (.ifnull 10, 3) := by decide +kernel
theorem dX6_fulfil_47 : decode cX6_fulfil 47 = .ok (.aload_n 0, 1) := by decide +kernel
theorem dX6_fulfil_48 : decode cX6_fulfil 48 = .ok (.aload 5, 2) := by decide +kernel
theorem dX6_fulfil_50 : decode cX6_fulfil 50 = .ok (.aload_n 1, 1) := by decide +kernel
theorem dX6_fulfil_51 : decode cX6_fulfil 51 = .ok (.invokevirtual 341, 3) := by decide +kernel
theorem dX6_fulfil_54 : decode cX6_fulfil 54 = .ok (.iinc 4 1, 3) := by decide +kernel
theorem dX6_fulfil_57 : decode cX6_fulfil 57 = .ok (.goto (-30), 3) := by decide +kernel
theorem dX6_fulfil_60 : decode cX6_fulfil 60 = .ok (.aload_n 1, 1) := by decide +kernel
theorem dX6_fulfil_61 : decode cX6_fulfil 61 = .ok (.getfield 157, 3) := by decide +kernel
theorem dX6_fulfil_64 : decode cX6_fulfil 64 = .ok (.aload_n 1, 1) := by decide +kernel
theorem dX6_fulfil_65 : decode cX6_fulfil 65 = .ok (.getfield 160, 3) := by decide +kernel
theorem dX6_fulfil_68 : decode cX6_fulfil 68 = .ok (.if_icmp .eq 29, 3) := by decide +kernel
theorem dX6_fulfil_71 : decode cX6_fulfil 71 = .ok (.aload_n 0, 1) := by decide +kernel
theorem dX6_fulfil_72 : decode cX6_fulfil 72 = .ok (.aload_n 2, 1) := by decide +kernel
theorem dX6_fulfil_73 : decode cX6_fulfil 73 = .ok (.aload_n 1, 1) := by decide +kernel
theorem dX6_fulfil_74 : decode cX6_fulfil 74 = .ok (.getfield 160, 3) := by decide +kernel
theorem dX6_fulfil_77 : decode cX6_fulfil 77 = .ok (.aload_n 1, 1) := by decide +kernel
theorem dX6_fulfil_78 : decode cX6_fulfil 78 = .ok (.getfield 157, 3) := by decide +kernel
theorem dX6_fulfil_81 : decode cX6_fulfil 81 = .ok (.invokevirtual 324, 3) := by decide +kernel
theorem dX6_fulfil_84 : decode cX6_fulfil 84 = .ok (.ifCond .ne 13, 3) := by decide +kernel
theorem dX6_fulfil_87 : decode cX6_fulfil 87 = .ok (.aload_n 2, 1) := by decide +kernel
theorem dX6_fulfil_88 : decode cX6_fulfil 88 = .ok (.invokevirtual 328, 3) := by decide +kernel
theorem dX6_fulfil_91 : decode cX6_fulfil 91 = .ok (.aload_n 0, 1) := by decide +kernel
theorem dX6_fulfil_92 : decode cX6_fulfil 92 = .ok (.aload_n 1, 1) := by decide +kernel
theorem dX6_fulfil_93 : decode cX6_fulfil 93 = .ok (.aload_n 2, 1) := by decide +kernel
theorem dX6_fulfil_94 : decode cX6_fulfil 94 = .ok (.invokevirtual 345, 3) := by decide +kernel
theorem dX6_fulfil_97 : decode cX6_fulfil 97 = .ok (.aload_n 0, 1) := by decide +kernel
theorem dX6_fulfil_98 : decode cX6_fulfil 98 = .ok (.aload_n 1, 1) := by decide +kernel
theorem dX6_fulfil_99 : decode cX6_fulfil 99 = .ok (.aload_n 1, 1) := by decide +kernel
theorem dX6_fulfil_100 : decode cX6_fulfil 100 = .ok (.getfield 160, 3) := by decide +kernel
theorem dX6_fulfil_103 : decode cX6_fulfil 103 = .ok (.invokevirtual 348, 3) := by decide +kernel
theorem dX6_fulfil_106 : decode cX6_fulfil 106 = .ok (.return_, 1) := by decide +kernel
theorem dX6_tellAsker_0 : decode cX6_tellAsker 0 = .ok (.aload_n 1, 1) := by decide +kernel
theorem dX6_tellAsker_1 : decode cX6_tellAsker 1 = .ok (.aload_n 2, 1) := by decide +kernel
theorem dX6_tellAsker_2 : decode cX6_tellAsker 2 = .ok (.getfield 216, 3) := by decide +kernel
theorem dX6_tellAsker_5 : decode cX6_tellAsker 5 = .ok (.putfield 352, 3) := by decide +kernel
theorem dX6_tellAsker_8 : decode cX6_tellAsker 8 = .ok (.aload_n 1, 1) := by decide +kernel
theorem dX6_tellAsker_9 : decode cX6_tellAsker 9 = .ok (.aload_n 2, 1) := by decide +kernel
theorem dX6_tellAsker_10 : decode cX6_tellAsker 10 = .ok (.getfield 222, 3) := by decide +kernel
theorem dX6_tellAsker_13 : decode cX6_tellAsker 13 = .ok (.putfield 355, 3) := by decide +kernel
theorem dX6_tellAsker_16 : decode cX6_tellAsker 16 = .ok (.aload_n 0, 1) := by decide +kernel
theorem dX6_tellAsker_17 : decode cX6_tellAsker 17 = .ok (.aload_n 1, 1) := by decide +kernel
theorem dX6_tellAsker_18 : decode cX6_tellAsker 18 = .ok (.aload_n 1, 1) := by decide +kernel
theorem dX6_tellAsker_19 : decode cX6_tellAsker 19 = .ok (.getfield 157, 3) := by decide +kernel
theorem dX6_tellAsker_22 : decode cX6_tellAsker 22 = .ok (.invokevirtual 348, 3) := by decide +kernel
theorem dX6_tellAsker_25 : decode cX6_tellAsker 25 = .ok (.return_, 1) := by decide +kernel
theorem dX6_sendOn_0 : decode cX6_sendOn 0 = .ok (.aload_n 2, 1) := by decide +kernel
theorem dX6_sendOn_1 : decode cX6_sendOn 1 = .ok (.getfield 335, 3) := by decide +kernel
theorem dX6_sendOn_4 : decode cX6_sendOn 4 = .ok (.iconst 2, 1) := by decide +kernel
theorem dX6_sendOn_5 : decode cX6_sendOn 5 = .ok (.if_icmp .ne 14, 3) := by decide +kernel
theorem dX6_sendOn_8 : decode cX6_sendOn 8 = .ok (.aload_n 0, 1) := by decide +kernel
theorem dX6_sendOn_9 : decode cX6_sendOn 9 = .ok (.aload_n 2, 1) := by decide +kernel
theorem dX6_sendOn_10 : decode cX6_sendOn 10 = .ok (.getfield 338, 3) := by decide +kernel
theorem dX6_sendOn_13 : decode cX6_sendOn 13 = .ok (.invokevirtual 55, 3) := by decide +kernel
theorem dX6_sendOn_16 : decode cX6_sendOn 16 = .ok (.goto 4, 3) := by decide +kernel
theorem dX6_sendOn_19 : decode cX6_sendOn 19 = .ok (.aconst_null, 1) := by decide +kernel
theorem dX6_sendOn_20 : decode cX6_sendOn 20 = .ok (.astore_n 3, 1) := by decide +kernel
theorem dX6_sendOn_21 : decode cX6_sendOn 21 = .ok (.aload_n 3, 1) := by decide +kernel
theorem dX6_sendOn_22 : decode cX6_sendOn 22 = .ok (.ifnull 25, 3) := by decide +kernel
theorem dX6_sendOn_25 : decode cX6_sendOn 25 = .ok (.aload_n 1, 1) := by decide +kernel
theorem dX6_sendOn_26 : decode cX6_sendOn 26 = .ok (.aconst_null, 1) := by decide +kernel
theorem dX6_sendOn_27 : decode cX6_sendOn 27 = .ok (.putfield 121, 3) := by decide +kernel
theorem dX6_sendOn_30 : decode cX6_sendOn 30 = .ok (.aload_n 1, 1) := by decide +kernel
theorem dX6_sendOn_31 : decode cX6_sendOn 31 = .ok (.aload_n 3, 1) := by decide +kernel
theorem dX6_sendOn_32 : decode cX6_sendOn 32 = .ok (.putfield 118, 3) := by decide +kernel
theorem dX6_sendOn_35 : decode cX6_sendOn 35 = .ok (.aload_n 0, 1) := by decide +kernel
theorem dX6_sendOn_36 : decode cX6_sendOn 36 = .ok (.aload_n 1, 1) := by decide +kernel
theorem dX6_sendOn_37 : decode cX6_sendOn 37 = .ok (.aload_n 2, 1) := by decide +kernel
theorem dX6_sendOn_38 : decode cX6_sendOn 38 = .ok (.getfield 160, 3) := by decide +kernel
theorem dX6_sendOn_41 : decode cX6_sendOn 41 = .ok (.invokevirtual 135, 3) := by decide +kernel
theorem dX6_sendOn_44 : decode cX6_sendOn 44 = .ok (.goto 34, 3) := by decide +kernel
theorem dX6_sendOn_47 : decode cX6_sendOn 47 = .ok (.aload_n 1, 1) := by decide +kernel
theorem dX6_sendOn_48 : decode cX6_sendOn 48 = .ok (.iconst 3, 1) := by decide +kernel
theorem dX6_sendOn_49 : decode cX6_sendOn 49 = .ok (.aload_n 2, 1) := by decide +kernel
theorem dX6_sendOn_50 : decode cX6_sendOn 50 = .ok (.getfield 335, 3) := by decide +kernel
theorem dX6_sendOn_53 : decode cX6_sendOn 53 = .ok (.iconst 3, 1) := by decide +kernel
theorem dX6_sendOn_54 : decode cX6_sendOn 54 = .ok (.if_icmp .ne 10, 3) := by decide +kernel
theorem dX6_sendOn_57 : decode cX6_sendOn 57 = .ok (.aload_n 2, 1) := by decide +kernel
theorem dX6_sendOn_58 : decode cX6_sendOn 58 = .ok (.getfield 338, 3) := by decide +kernel
theorem dX6_sendOn_61 : decode cX6_sendOn 61 = .ok (.goto 4, 3) := by decide +kernel
theorem dX6_sendOn_64 : decode cX6_sendOn 64 = .ok (.iconst 3, 1) := by decide +kernel
theorem dX6_sendOn_65 : decode cX6_sendOn 65 = .ok (.invokevirtual 282, 3) := by decide +kernel
theorem dX6_sendOn_68 : decode cX6_sendOn 68 = .ok (.pop, 1) := by decide +kernel
theorem dX6_sendOn_69 : decode cX6_sendOn 69 = .ok (.aload_n 0, 1) := by decide +kernel
theorem dX6_sendOn_70 : decode cX6_sendOn 70 = .ok (.aload_n 1, 1) := by decide +kernel
theorem dX6_sendOn_71 : decode cX6_sendOn 71 = .ok (.aload_n 2, 1) := by decide +kernel
theorem dX6_sendOn_72 : decode cX6_sendOn 72 = .ok (.getfield 160, 3) := by decide +kernel
theorem dX6_sendOn_75 : decode cX6_sendOn 75 = .ok (.invokevirtual 310, 3) := by decide +kernel
theorem dX6_sendOn_78 : decode cX6_sendOn 78 = .ok (.return_, 1) := by decide +kernel
theorem dX6_postWhens_0 : decode cX6_postWhens 0 = .ok (.iconst 0, 1) := by decide +kernel
theorem dX6_postWhens_1 : decode cX6_postWhens 1 = .ok (.istore_n 3, 1) := by decide +kernel
theorem dX6_postWhens_2 : decode cX6_postWhens 2 = .ok (.iload_n 3, 1) := by decide +kernel
theorem dX6_postWhens_3 : decode cX6_postWhens 3 = .ok (.aload_n 0, 1) := by decide +kernel
theorem dX6_postWhens_4 : decode cX6_postWhens 4 = .ok (.getfield 140, 3) := by decide +kernel
theorem dX6_postWhens_7 : decode cX6_postWhens 7 = .ok (.if_icmp .ge 55, 3) := by decide +kernel
theorem dX6_postWhens_10 : decode cX6_postWhens 10 = .ok (.iload_n 3, 1) := by decide +kernel
theorem dX6_postWhens_11 : decode cX6_postWhens 11 = .ok (.aload_n 0, 1) := by decide +kernel
theorem dX6_postWhens_12 : decode cX6_postWhens 12 = .ok (.getfield 23, 3) := by decide +kernel
theorem dX6_postWhens_15 : decode cX6_postWhens 15 = .ok (.arraylength, 1) := by decide +kernel
theorem dX6_postWhens_16 : decode cX6_postWhens 16 = .ok (.if_icmp .ge 46, 3) := by decide +kernel
theorem dX6_postWhens_19 : decode cX6_postWhens 19 = .ok (.aload_n 0, 1) := by decide +kernel
theorem dX6_postWhens_20 : decode cX6_postWhens 20 = .ok (.getfield 23, 3) := by decide +kernel
theorem dX6_postWhens_23 : decode cX6_postWhens 23 = .ok (.iload_n 3, 1) := by decide +kernel
theorem dX6_postWhens_24 : decode cX6_postWhens 24 = .ok (.aaload, 1) := by decide +kernel
theorem dX6_postWhens_25 : decode cX6_postWhens 25 = .ok (.astore 4, 2) := by decide +kernel
theorem dX6_postWhens_27 : decode cX6_postWhens 27 = .ok (.aload 4, 2) := by decide +kernel
theorem dX6_postWhens_29 : decode cX6_postWhens 29 = .ok (.ifnull 27, 3) := by decide +kernel
theorem dX6_postWhens_32 : decode cX6_postWhens 32 = .ok (.aload 4, 2) := by decide +kernel
theorem dX6_postWhens_34 : decode cX6_postWhens 34 = .ok (.getfield 358, 3) := by decide +kernel
theorem dX6_postWhens_37 : decode cX6_postWhens 37 = .ok (.aload_n 1, 1) := by decide +kernel
theorem dX6_postWhens_38 : decode cX6_postWhens 38 = .ok (.if_acmp .ne 18, 3) := by decide +kernel
theorem dX6_postWhens_41 : decode cX6_postWhens 41 = .ok (.aload 4, 2) := by decide +kernel
theorem dX6_postWhens_43 : decode cX6_postWhens 43 = .ok (.getfield 359, 3) := by decide +kernel
theorem dX6_postWhens_46 : decode cX6_postWhens 46 = .ok (.iload_n 2, 1) := by decide +kernel
theorem dX6_postWhens_47 : decode cX6_postWhens 47 = .ok (.if_icmp .ne 9, 3) := by decide +kernel
theorem dX6_postWhens_50 : decode cX6_postWhens 50 = .ok (.aload_n 0, 1) := by decide +kernel
theorem dX6_postWhens_51 : decode cX6_postWhens 51 = .ok (.aload 4, 2) := by decide +kernel
theorem dX6_postWhens_53 : decode cX6_postWhens 53 = .ok (.invokevirtual 150, 3) := by decide +kernel
theorem dX6_postWhens_56 : decode cX6_postWhens 56 = .ok (.iinc 3 1, 3) := by decide +kernel
theorem dX6_postWhens_59 : decode cX6_postWhens 59 = .ok (.goto (-57), 3) := by decide +kernel
theorem dX6_postWhens_62 : decode cX6_postWhens 62 = .ok (.return_, 1) := by decide +kernel
theorem dX6_postWhen_0 : decode cX6_postWhen 0 = .ok (.aload_n 1, 1) := by decide +kernel
theorem dX6_postWhen_1 : decode cX6_postWhen 1 = .ok (.getfield 358, 3) := by decide +kernel
theorem dX6_postWhen_4 : decode cX6_postWhen 4 = .ok (.aload_n 1, 1) := by decide +kernel
theorem dX6_postWhen_5 : decode cX6_postWhen 5 = .ok (.getfield 359, 3) := by decide +kernel
theorem dX6_postWhen_8 : decode cX6_postWhen 8 = .ok (.invokevirtual 154, 3) := by decide +kernel
theorem dX6_postWhen_11 : decode cX6_postWhen 11 = .ok (.istore_n 2, 1) := by decide +kernel
theorem dX6_postWhen_12 : decode cX6_postWhen 12 = .ok (.aload_n 1, 1) := by decide +kernel
theorem dX6_postWhen_13 : decode cX6_postWhen 13 = .ok (.getfield 358, 3) := by decide +kernel
theorem dX6_postWhen_16 : decode cX6_postWhen 16 = .ok (.aload_n 1, 1) := by decide +kernel
theorem dX6_postWhen_17 : decode cX6_postWhen 17 = .ok (.getfield 359, 3) := by decide +kernel
theorem dX6_postWhen_20 : decode cX6_postWhen 20 = .ok (.invokevirtual 146, 3) := by decide +kernel
theorem dX6_postWhen_23 : decode cX6_postWhen 23 = .ok (.iconst 3, 1) := by decide +kernel
theorem dX6_postWhen_24 : decode cX6_postWhen 24 = .ok (.if_icmp .ne 7, 3) := by decide +kernel
theorem dX6_postWhen_27 : decode cX6_postWhen 27 = .ok (.iconst 1, 1) := by decide +kernel
theorem dX6_postWhen_28 : decode cX6_postWhen 28 = .ok (.goto 4, 3) := by decide +kernel
theorem dX6_postWhen_31 : decode cX6_postWhen 31 = .ok (.iconst 0, 1) := by decide +kernel
theorem dX6_postWhen_32 : decode cX6_postWhen 32 = .ok (.istore_n 3, 1) := by decide +kernel
theorem dX6_postWhen_33 : decode cX6_postWhen 33 = .ok (.new 113, 3) := by decide +kernel
theorem dX6_postWhen_36 : decode cX6_postWhen 36 = .ok (.dup, 1) := by decide +kernel
theorem dX6_postWhen_37 : decode cX6_postWhen 37 = .ok (.iconst 2, 1) := by decide +kernel
theorem dX6_postWhen_38 : decode cX6_postWhen 38 = .ok (.iload_n 3, 1) := by decide +kernel
theorem dX6_postWhen_39 : decode cX6_postWhen 39 = .ok (.ifCond .eq 8, 3) := by decide +kernel
theorem dX6_postWhen_42 : decode cX6_postWhen 42 = .ok (.iload_n 2, 1) := by decide +kernel
theorem dX6_postWhen_43 : decode cX6_postWhen 43 = .ok (.ineg, 1) := by decide +kernel
theorem dX6_postWhen_44 : decode cX6_postWhen 44 = .ok (.goto 4, 3) := by decide +kernel
theorem dX6_postWhen_47 : decode cX6_postWhen 47 = .ok (.iload_n 2, 1) := by decide +kernel
theorem dX6_postWhen_48 : decode cX6_postWhen 48 = .ok (.aconst_null, 1) := by decide +kernel
theorem dX6_postWhen_49 : decode cX6_postWhen 49 = .ok (.invokespecial 115, 3) := by decide +kernel
theorem dX6_postWhen_52 : decode cX6_postWhen 52 = .ok (.astore 4, 2) := by decide +kernel
theorem dX6_postWhen_54 : decode cX6_postWhen 54 = .ok (.aload 4, 2) := by decide +kernel
theorem dX6_postWhen_56 : decode cX6_postWhen 56 = .ok (.aload_n 1, 1) := by decide +kernel
theorem dX6_postWhen_57 : decode cX6_postWhen 57 = .ok (.getfield 360, 3) := by decide +kernel
theorem dX6_postWhen_60 : decode cX6_postWhen 60 = .ok (.putfield 118, 3) := by decide +kernel
theorem dX6_postWhen_63 : decode cX6_postWhen 63 = .ok (.aload_n 0, 1) := by decide +kernel
theorem dX6_postWhen_64 : decode cX6_postWhen 64 = .ok (.aload 4, 2) := by decide +kernel
theorem dX6_postWhen_66 : decode cX6_postWhen 66 = .ok (.aload_n 1, 1) := by decide +kernel
theorem dX6_postWhen_67 : decode cX6_postWhen 67 = .ok (.getfield 359, 3) := by decide +kernel
theorem dX6_postWhen_70 : decode cX6_postWhen 70 = .ok (.aload_n 1, 1) := by decide +kernel
theorem dX6_postWhen_71 : decode cX6_postWhen 71 = .ok (.getfield 359, 3) := by decide +kernel
theorem dX6_postWhen_74 : decode cX6_postWhen 74 = .ok (.invokevirtual 324, 3) := by decide +kernel
theorem dX6_postWhen_77 : decode cX6_postWhen 77 = .ok (.pop, 1) := by decide +kernel
theorem dX6_postWhen_78 : decode cX6_postWhen 78 = .ok (.return_, 1) := by decide +kernel
theorem dX6_deliverFirst_0 : decode cX6_deliverFirst 0 = .ok (.aload_n 1, 1) := by decide +kernel
theorem dX6_deliverFirst_1 : decode cX6_deliverFirst 1 = .ok (.getfield 200, 3) := by decide +kernel
theorem dX6_deliverFirst_4 : decode cX6_deliverFirst 4 = .ok (.invokevirtual 320, 3) := by decide +kernel
theorem dX6_deliverFirst_7 : decode cX6_deliverFirst 7 = .ok (.astore_n 2, 1) := by decide +kernel
theorem dX6_deliverFirst_8 : decode cX6_deliverFirst 8 = .ok (.aload_n 2, 1) := by decide +kernel
theorem dX6_deliverFirst_9 : decode cX6_deliverFirst 9 = .ok (.ifnonnull 6, 3) := by decide +kernel
theorem dX6_deliverFirst_12 : decode cX6_deliverFirst 12 = .ok (.bipush (-9), 2) := by decide +kernel
theorem dX6_deliverFirst_14 : decode cX6_deliverFirst 14 = .ok (.ireturn, 1) := by decide +kernel
theorem dX6_deliverFirst_15 : decode cX6_deliverFirst 15 = .ok (.aload_n 2, 1) := by decide +kernel
theorem dX6_deliverFirst_16 : decode cX6_deliverFirst 16 = .ok (.invokevirtual 210, 3) := by decide +kernel
theorem dX6_deliverFirst_19 : decode cX6_deliverFirst 19 = .ok (.istore_n 3, 1) := by decide +kernel
theorem dX6_deliverFirst_20 : decode cX6_deliverFirst 20 = .ok (.aload_n 2, 1) := by decide +kernel
theorem dX6_deliverFirst_21 : decode cX6_deliverFirst 21 = .ok (.getfield 213, 3) := by decide +kernel
theorem dX6_deliverFirst_24 : decode cX6_deliverFirst 24 = .ok (.ifCond .eq 14, 3) := by decide +kernel
theorem dX6_deliverFirst_27 : decode cX6_deliverFirst 27 = .ok (.aload_n 0, 1) := by decide +kernel
theorem dX6_deliverFirst_28 : decode cX6_deliverFirst 28 = .ok (.aload_n 2, 1) := by decide +kernel
theorem dX6_deliverFirst_29 : decode cX6_deliverFirst 29 = .ok (.aload_n 1, 1) := by decide +kernel
theorem dX6_deliverFirst_30 : decode cX6_deliverFirst 30 = .ok (.getfield 363, 3) := by decide +kernel
theorem dX6_deliverFirst_33 : decode cX6_deliverFirst 33 = .ok (.invokevirtual 366, 3) := by decide +kernel
theorem dX6_deliverFirst_36 : decode cX6_deliverFirst 36 = .ok (.iload_n 3, 1) := by decide +kernel
theorem dX6_deliverFirst_37 : decode cX6_deliverFirst 37 = .ok (.ireturn, 1) := by decide +kernel
theorem dX6_deliverFirst_38 : decode cX6_deliverFirst 38 = .ok (.aload_n 2, 1) := by decide +kernel
theorem dX6_deliverFirst_39 : decode cX6_deliverFirst 39 = .ok (.aconst_null, 1) := by decide +kernel
theorem dX6_deliverFirst_40 : decode cX6_deliverFirst 40 = .ok (.putfield 290, 3) := by decide +kernel
theorem dX6_deliverFirst_43 : decode cX6_deliverFirst 43 = .ok (.aload_n 2, 1) := by decide +kernel
theorem dX6_deliverFirst_44 : decode cX6_deliverFirst 44 = .ok (.getfield 121, 3) := by decide +kernel
theorem dX6_deliverFirst_47 : decode cX6_deliverFirst 47 = .ok (.ifnull 15, 3) := by decide +kernel
theorem dX6_deliverFirst_50 : decode cX6_deliverFirst 50 = .ok (.aload_n 0, 1) := by decide +kernel
theorem dX6_deliverFirst_51 : decode cX6_deliverFirst 51 = .ok (.aload_n 2, 1) := by decide +kernel
theorem dX6_deliverFirst_52 : decode cX6_deliverFirst 52 = .ok (.aload_n 2, 1) := by decide +kernel
theorem dX6_deliverFirst_53 : decode cX6_deliverFirst 53 = .ok (.getfield 121, 3) := by decide +kernel
theorem dX6_deliverFirst_56 : decode cX6_deliverFirst 56 = .ok (.invokevirtual 369, 3) := by decide +kernel
theorem dX6_deliverFirst_59 : decode cX6_deliverFirst 59 = .ok (.goto 19, 3) := by decide +kernel
theorem dX6_deliverFirst_62 : decode cX6_deliverFirst 62 = .ok (.aload_n 2, 1) := by decide +kernel
theorem dX6_deliverFirst_63 : decode cX6_deliverFirst 63 = .ok (.getfield 118, 3) := by decide +kernel
theorem dX6_deliverFirst_66 : decode cX6_deliverFirst 66 = .ok (.ifnull 12, 3) := by decide +kernel
theorem dX6_deliverFirst_69 : decode cX6_deliverFirst 69 = .ok (.aload_n 0, 1) := by decide +kernel
theorem dX6_deliverFirst_70 : decode cX6_deliverFirst 70 = .ok (.aload_n 2, 1) := by decide +kernel
theorem dX6_deliverFirst_71 : decode cX6_deliverFirst 71 = .ok (.getfield 118, 3) := by decide +kernel
theorem dX6_deliverFirst_74 : decode cX6_deliverFirst 74 = .ok (.aload_n 2, 1) := by decide +kernel
theorem dX6_deliverFirst_75 : decode cX6_deliverFirst 75 = .ok (.invokevirtual 372, 3) := by decide +kernel
theorem dX6_deliverFirst_78 : decode cX6_deliverFirst 78 = .ok (.iload_n 3, 1) := by decide +kernel
theorem dX6_deliverFirst_79 : decode cX6_deliverFirst 79 = .ok (.ireturn, 1) := by decide +kernel
theorem dX6_reachPromise_0 : decode cX6_reachPromise 0 = .ok (.aload_n 2, 1) := by decide +kernel
theorem dX6_reachPromise_1 : decode cX6_reachPromise 1 = .ok (.getfield 335, 3) := by decide +kernel
theorem dX6_reachPromise_4 : decode cX6_reachPromise 4 = .ok (.ifCond .ne 19, 3) := by decide +kernel
theorem dX6_reachPromise_7 : decode cX6_reachPromise 7 = .ok (.aload_n 1, 1) := by decide +kernel
theorem dX6_reachPromise_8 : decode cX6_reachPromise 8 = .ok (.iconst 2, 1) := by decide +kernel
theorem dX6_reachPromise_9 : decode cX6_reachPromise 9 = .ok (.putfield 173, 3) := by decide +kernel
theorem dX6_reachPromise_12 : decode cX6_reachPromise 12 = .ok (.aload_n 2, 1) := by decide +kernel
theorem dX6_reachPromise_13 : decode cX6_reachPromise 13 = .ok (.getfield 163, 3) := by decide +kernel
theorem dX6_reachPromise_16 : decode cX6_reachPromise 16 = .ok (.aload_n 1, 1) := by decide +kernel
theorem dX6_reachPromise_17 : decode cX6_reachPromise 17 = .ok (.invokevirtual 313, 3) := by decide +kernel
theorem dX6_reachPromise_20 : decode cX6_reachPromise 20 = .ok (.goto 9, 3) := by decide +kernel
theorem dX6_reachPromise_23 : decode cX6_reachPromise 23 = .ok (.aload_n 0, 1) := by decide +kernel
theorem dX6_reachPromise_24 : decode cX6_reachPromise 24 = .ok (.aload_n 1, 1) := by decide +kernel
theorem dX6_reachPromise_25 : decode cX6_reachPromise 25 = .ok (.aload_n 2, 1) := by decide +kernel
theorem dX6_reachPromise_26 : decode cX6_reachPromise 26 = .ok (.invokevirtual 341, 3) := by decide +kernel
theorem dX6_reachPromise_29 : decode cX6_reachPromise 29 = .ok (.return_, 1) := by decide +kernel
theorem dX6_receiveAnswer_0 : decode cX6_receiveAnswer 0 = .ok (.aload_n 1, 1) := by decide +kernel
theorem dX6_receiveAnswer_1 : decode cX6_receiveAnswer 1 = .ok (.getfield 132, 3) := by decide +kernel
theorem dX6_receiveAnswer_4 : decode cX6_receiveAnswer 4 = .ok (.astore_n 3, 1) := by decide +kernel
theorem dX6_receiveAnswer_5 : decode cX6_receiveAnswer 5 = .ok (.aload_n 3, 1) := by decide +kernel
theorem dX6_receiveAnswer_6 : decode cX6_receiveAnswer 6 = .ok (.ifnonnull 4, 3) := by decide +kernel
theorem dX6_receiveAnswer_9 : decode cX6_receiveAnswer 9 = .ok (.return_, 1) := by decide +kernel
theorem dX6_receiveAnswer_10 : decode cX6_receiveAnswer 10 = .ok (.iload_n 2, 1) := by decide +kernel
theorem dX6_receiveAnswer_11 : decode cX6_receiveAnswer 11 = .ok (.aload_n 3, 1) := by decide +kernel
theorem dX6_receiveAnswer_12 : decode cX6_receiveAnswer 12 = .ok (.getfield 160, 3) := by decide +kernel
theorem dX6_receiveAnswer_15 : decode cX6_receiveAnswer 15 = .ok (.if_icmp .ne 14, 3) := by decide +kernel
theorem dX6_receiveAnswer_18 : decode cX6_receiveAnswer 18 = .ok (.aload_n 0, 1) := by decide +kernel
theorem dX6_receiveAnswer_19 : decode cX6_receiveAnswer 19 = .ok (.getfield 36, 3) := by decide +kernel
theorem dX6_receiveAnswer_22 : decode cX6_receiveAnswer 22 = .ok (.aload_n 1, 1) := by decide +kernel
theorem dX6_receiveAnswer_23 : decode cX6_receiveAnswer 23 = .ok (.invokevirtual 313, 3) := by decide +kernel
theorem dX6_receiveAnswer_26 : decode cX6_receiveAnswer 26 = .ok (.goto 9, 3) := by decide +kernel
theorem dX6_receiveAnswer_29 : decode cX6_receiveAnswer 29 = .ok (.aload_n 0, 1) := by decide +kernel
theorem dX6_receiveAnswer_30 : decode cX6_receiveAnswer 30 = .ok (.aload_n 3, 1) := by decide +kernel
theorem dX6_receiveAnswer_31 : decode cX6_receiveAnswer 31 = .ok (.aload_n 1, 1) := by decide +kernel
theorem dX6_receiveAnswer_32 : decode cX6_receiveAnswer 32 = .ok (.invokevirtual 345, 3) := by decide +kernel
theorem dX6_receiveAnswer_35 : decode cX6_receiveAnswer 35 = .ok (.return_, 1) := by decide +kernel
theorem dX6_loseFirst_0 : decode cX6_loseFirst 0 = .ok (.aload_n 1, 1) := by decide +kernel
theorem dX6_loseFirst_1 : decode cX6_loseFirst 1 = .ok (.getfield 200, 3) := by decide +kernel
theorem dX6_loseFirst_4 : decode cX6_loseFirst 4 = .ok (.invokevirtual 320, 3) := by decide +kernel
theorem dX6_loseFirst_7 : decode cX6_loseFirst 7 = .ok (.astore_n 2, 1) := by decide +kernel
theorem dX6_loseFirst_8 : decode cX6_loseFirst 8 = .ok (.aload_n 2, 1) := by decide +kernel
theorem dX6_loseFirst_9 : decode cX6_loseFirst 9 = .ok (.ifnonnull 4, 3) := by decide +kernel
theorem dX6_loseFirst_12 : decode cX6_loseFirst 12 = .ok (.return_, 1) := by decide +kernel
theorem dX6_loseFirst_13 : decode cX6_loseFirst 13 = .ok (.aload_n 2, 1) := by decide +kernel
theorem dX6_loseFirst_14 : decode cX6_loseFirst 14 = .ok (.invokevirtual 328, 3) := by decide +kernel
theorem dX6_loseFirst_17 : decode cX6_loseFirst 17 = .ok (.aload_n 2, 1) := by decide +kernel
theorem dX6_loseFirst_18 : decode cX6_loseFirst 18 = .ok (.getfield 213, 3) := by decide +kernel
theorem dX6_loseFirst_21 : decode cX6_loseFirst 21 = .ok (.ifCond .eq 15, 3) := by decide +kernel
theorem dX6_loseFirst_24 : decode cX6_loseFirst 24 = .ok (.aload_n 0, 1) := by decide +kernel
theorem dX6_loseFirst_25 : decode cX6_loseFirst 25 = .ok (.aload_n 2, 1) := by decide +kernel
theorem dX6_loseFirst_26 : decode cX6_loseFirst 26 = .ok (.aload_n 1, 1) := by decide +kernel
theorem dX6_loseFirst_27 : decode cX6_loseFirst 27 = .ok (.getfield 363, 3) := by decide +kernel
theorem dX6_loseFirst_30 : decode cX6_loseFirst 30 = .ok (.invokevirtual 366, 3) := by decide +kernel
theorem dX6_loseFirst_33 : decode cX6_loseFirst 33 = .ok (.goto 12, 3) := by decide +kernel
theorem dX6_loseFirst_36 : decode cX6_loseFirst 36 = .ok (.aload_n 0, 1) := by decide +kernel
theorem dX6_loseFirst_37 : decode cX6_loseFirst 37 = .ok (.aload_n 2, 1) := by decide +kernel
theorem dX6_loseFirst_38 : decode cX6_loseFirst 38 = .ok (.aload_n 1, 1) := by decide +kernel
theorem dX6_loseFirst_39 : decode cX6_loseFirst 39 = .ok (.getfield 375, 3) := by decide +kernel
theorem dX6_loseFirst_42 : decode cX6_loseFirst 42 = .ok (.invokevirtual 310, 3) := by decide +kernel
theorem dX6_loseFirst_45 : decode cX6_loseFirst 45 = .ok (.return_, 1) := by decide +kernel
theorem dX6_movedBy_0 : decode cX6_movedBy 0 = .ok (.lconst 0, 1) := by decide +kernel
theorem dX6_movedBy_1 : decode cX6_movedBy 1 = .ok (.lstore_n 1, 1) := by decide +kernel
theorem dX6_movedBy_2 : decode cX6_movedBy 2 = .ok (.aload_n 0, 1) := by decide +kernel
theorem dX6_movedBy_3 : decode cX6_movedBy 3 = .ok (.getfield 200, 3) := by decide +kernel
theorem dX6_movedBy_6 : decode cX6_movedBy 6 = .ok (.getfield 378, 3) := by decide +kernel
theorem dX6_movedBy_9 : decode cX6_movedBy 9 = .ok (.astore_n 3, 1) := by decide +kernel
theorem dX6_movedBy_10 : decode cX6_movedBy 10 = .ok (.iconst 0, 1) := by decide +kernel
theorem dX6_movedBy_11 : decode cX6_movedBy 11 = .ok (.istore 4, 2) := by decide +kernel
theorem dX6_movedBy_13 : decode cX6_movedBy 13 = .ok (.iload 4, 2) := by decide +kernel
theorem dX6_movedBy_15 : decode cX6_movedBy 15 = .ok (.aload_n 0, 1) := by decide +kernel
theorem dX6_movedBy_16 : decode cX6_movedBy 16 = .ok (.getfield 200, 3) := by decide +kernel
theorem dX6_movedBy_19 : decode cX6_movedBy 19 = .ok (.getfield 100, 3) := by decide +kernel
theorem dX6_movedBy_22 : decode cX6_movedBy 22 = .ok (.if_icmp .ge 37, 3) := by decide +kernel
theorem dX6_movedBy_25 : decode cX6_movedBy 25 = .ok (.aload_n 3, 1) := by decide +kernel
theorem dX6_movedBy_26 : decode cX6_movedBy 26 = .ok (.ifnull 33, 3) := by decide +kernel
theorem dX6_movedBy_29 : decode cX6_movedBy 29 = .ok (.lload_n 1, 1) := by decide +kernel
theorem dX6_movedBy_30 : decode cX6_movedBy 30 = .ok (.aload_n 3, 1) := by decide +kernel
theorem dX6_movedBy_31 : decode cX6_movedBy 31 = .ok (.getfield 290, 3) := by decide +kernel
theorem dX6_movedBy_34 : decode cX6_movedBy 34 = .ok (.ifnonnull 7, 3) := by decide +kernel
theorem dX6_movedBy_37 : decode cX6_movedBy 37 = .ok (.lconst 0, 1) := by decide +kernel
theorem dX6_movedBy_38 : decode cX6_movedBy 38 = .ok (.goto 8, 3) := by decide +kernel
theorem dX6_movedBy_41 : decode cX6_movedBy 41 = .ok (.aload_n 3, 1) := by decide +kernel
theorem dX6_movedBy_42 : decode cX6_movedBy 42 = .ok (.getfield 225, 3) := by decide +kernel
theorem dX6_movedBy_45 : decode cX6_movedBy 45 = .ok (.i2l, 1) := by decide +kernel
theorem dX6_movedBy_46 : decode cX6_movedBy 46 = .ok (.ladd, 1) := by decide +kernel
theorem dX6_movedBy_47 : decode cX6_movedBy 47 = .ok (.lstore_n 1, 1) := by decide +kernel
theorem dX6_movedBy_48 : decode cX6_movedBy 48 = .ok (.aload_n 3, 1) := by decide +kernel
theorem dX6_movedBy_49 : decode cX6_movedBy 49 = .ok (.getfield 381, 3) := by decide +kernel
theorem dX6_movedBy_52 : decode cX6_movedBy 52 = .ok (.astore_n 3, 1) := by decide +kernel
theorem dX6_movedBy_53 : decode cX6_movedBy 53 = .ok (.iinc 4 1, 3) := by decide +kernel
theorem dX6_movedBy_56 : decode cX6_movedBy 56 = .ok (.goto (-43), 3) := by decide +kernel
theorem dX6_movedBy_59 : decode cX6_movedBy 59 = .ok (.lload_n 1, 1) := by decide +kernel
theorem dX6_movedBy_60 : decode cX6_movedBy 60 = .ok (.lreturn, 1) := by decide +kernel
theorem dX6_openAtHome_0 : decode cX6_openAtHome 0 = .ok (.iconst 0, 1) := by decide +kernel
theorem dX6_openAtHome_1 : decode cX6_openAtHome 1 = .ok (.istore_n 1, 1) := by decide +kernel
theorem dX6_openAtHome_2 : decode cX6_openAtHome 2 = .ok (.iconst 0, 1) := by decide +kernel
theorem dX6_openAtHome_3 : decode cX6_openAtHome 3 = .ok (.istore_n 2, 1) := by decide +kernel
theorem dX6_openAtHome_4 : decode cX6_openAtHome 4 = .ok (.iload_n 2, 1) := by decide +kernel
theorem dX6_openAtHome_5 : decode cX6_openAtHome 5 = .ok (.aload_n 0, 1) := by decide +kernel
theorem dX6_openAtHome_6 : decode cX6_openAtHome 6 = .ok (.getfield 110, 3) := by decide +kernel
theorem dX6_openAtHome_9 : decode cX6_openAtHome 9 = .ok (.if_icmp .ge 37, 3) := by decide +kernel
theorem dX6_openAtHome_12 : decode cX6_openAtHome 12 = .ok (.aload_n 0, 1) := by decide +kernel
theorem dX6_openAtHome_13 : decode cX6_openAtHome 13 = .ok (.iload_n 2, 1) := by decide +kernel
theorem dX6_openAtHome_14 : decode cX6_openAtHome 14 = .ok (.invokevirtual 103, 3) := by decide +kernel
theorem dX6_openAtHome_17 : decode cX6_openAtHome 17 = .ok (.astore_n 3, 1) := by decide +kernel
theorem dX6_openAtHome_18 : decode cX6_openAtHome 18 = .ok (.iload_n 1, 1) := by decide +kernel
theorem dX6_openAtHome_19 : decode cX6_openAtHome 19 = .ok (.aload_n 3, 1) := by decide +kernel
theorem dX6_openAtHome_20 : decode cX6_openAtHome 20 = .ok (.ifnull 14, 3) := by decide +kernel
theorem dX6_openAtHome_23 : decode cX6_openAtHome 23 = .ok (.aload_n 3, 1) := by decide +kernel
theorem dX6_openAtHome_24 : decode cX6_openAtHome 24 = .ok (.getfield 335, 3) := by decide +kernel
theorem dX6_openAtHome_27 : decode cX6_openAtHome 27 = .ok (.ifCond .ne 7, 3) := by decide +kernel
theorem dX6_openAtHome_30 : decode cX6_openAtHome 30 = .ok (.iconst 1, 1) := by decide +kernel
theorem dX6_openAtHome_31 : decode cX6_openAtHome 31 = .ok (.goto 4, 3) := by decide +kernel
theorem dX6_openAtHome_34 : decode cX6_openAtHome 34 = .ok (.iconst 0, 1) := by decide +kernel
theorem dX6_openAtHome_35 : decode cX6_openAtHome 35 = .ok (.invokestatic 67, 3) := by decide +kernel
theorem dX6_openAtHome_38 : decode cX6_openAtHome 38 = .ok (.iadd, 1) := by decide +kernel
theorem dX6_openAtHome_39 : decode cX6_openAtHome 39 = .ok (.istore_n 1, 1) := by decide +kernel
theorem dX6_openAtHome_40 : decode cX6_openAtHome 40 = .ok (.iinc 2 1, 3) := by decide +kernel
theorem dX6_openAtHome_43 : decode cX6_openAtHome 43 = .ok (.goto (-39), 3) := by decide +kernel
theorem dX6_openAtHome_46 : decode cX6_openAtHome 46 = .ok (.iload_n 1, 1) := by decide +kernel
theorem dX6_openAtHome_47 : decode cX6_openAtHome 47 = .ok (.ireturn, 1) := by decide +kernel
theorem dX6_lettersUnderWay_0 : decode cX6_lettersUnderWay 0 = .ok (.iconst 0, 1) := by decide +kernel
theorem dX6_lettersUnderWay_1 : decode cX6_lettersUnderWay 1 = .ok (.istore_n 1, 1) := by decide +kernel
theorem dX6_lettersUnderWay_2 : decode cX6_lettersUnderWay 2 = .ok (.iconst 0, 1) := by decide +kernel
theorem dX6_lettersUnderWay_3 : decode cX6_lettersUnderWay 3 = .ok (.istore_n 2, 1) := by decide +kernel
theorem dX6_lettersUnderWay_4 : decode cX6_lettersUnderWay 4 = .ok (.iload_n 2, 1) := by decide +kernel
theorem dX6_lettersUnderWay_5 : decode cX6_lettersUnderWay 5 = .ok (.aload_n 0, 1) := by decide +kernel
theorem dX6_lettersUnderWay_6 : decode cX6_lettersUnderWay 6 = .ok (.getfield 29, 3) := by decide +kernel
theorem dX6_lettersUnderWay_9 : decode cX6_lettersUnderWay 9 = .ok (.arraylength, 1) := by decide +kernel
theorem dX6_lettersUnderWay_10 : decode cX6_lettersUnderWay 10 = .ok (.if_icmp .ge 37, 3) := by decide +kernel
theorem dX6_lettersUnderWay_13 : decode cX6_lettersUnderWay 13 = .ok (.iload_n 1, 1) := by decide +kernel
theorem dX6_lettersUnderWay_14 : decode cX6_lettersUnderWay 14 = .ok (.aload_n 0, 1) := by decide +kernel
theorem dX6_lettersUnderWay_15 : decode cX6_lettersUnderWay 15 = .ok (.getfield 29, 3) := by decide +kernel
theorem dX6_lettersUnderWay_18 : decode cX6_lettersUnderWay 18 = .ok (.iload_n 2, 1) := by decide +kernel
theorem dX6_lettersUnderWay_19 : decode cX6_lettersUnderWay 19 = .ok (.aaload, 1) := by decide +kernel
theorem dX6_lettersUnderWay_20 : decode cX6_lettersUnderWay 20 = .ok (.ifnonnull 7, 3) := by decide +kernel
theorem dX6_lettersUnderWay_23 : decode cX6_lettersUnderWay 23 = .ok (.iconst 0, 1) := by decide +kernel
theorem dX6_lettersUnderWay_24 : decode cX6_lettersUnderWay 24 = .ok (.goto 15, 3) := by decide +kernel
theorem dX6_lettersUnderWay_27 : decode cX6_lettersUnderWay 27 = .ok (.aload_n 0, 1) := by decide +kernel
theorem dX6_lettersUnderWay_28 : decode cX6_lettersUnderWay 28 = .ok (.getfield 29, 3) := by decide +kernel
theorem dX6_lettersUnderWay_31 : decode cX6_lettersUnderWay 31 = .ok (.iload_n 2, 1) := by decide +kernel
theorem dX6_lettersUnderWay_32 : decode cX6_lettersUnderWay 32 = .ok (.aaload, 1) := by decide +kernel
theorem dX6_lettersUnderWay_33 : decode cX6_lettersUnderWay 33 = .ok (.getfield 200, 3) := by decide +kernel
theorem dX6_lettersUnderWay_36 : decode cX6_lettersUnderWay 36 = .ok (.getfield 100, 3) := by decide +kernel
theorem dX6_lettersUnderWay_39 : decode cX6_lettersUnderWay 39 = .ok (.iadd, 1) := by decide +kernel
theorem dX6_lettersUnderWay_40 : decode cX6_lettersUnderWay 40 = .ok (.istore_n 1, 1) := by decide +kernel
theorem dX6_lettersUnderWay_41 : decode cX6_lettersUnderWay 41 = .ok (.iinc 2 1, 3) := by decide +kernel
theorem dX6_lettersUnderWay_44 : decode cX6_lettersUnderWay 44 = .ok (.goto (-40), 3) := by decide +kernel
theorem dX6_lettersUnderWay_47 : decode cX6_lettersUnderWay 47 = .ok (.iload_n 1, 1) := by decide +kernel
theorem dX6_lettersUnderWay_48 : decode cX6_lettersUnderWay 48 = .ok (.ireturn, 1) := by decide +kernel
theorem dX6_wiresCut_0 : decode cX6_wiresCut 0 = .ok (.iconst 0, 1) := by decide +kernel
theorem dX6_wiresCut_1 : decode cX6_wiresCut 1 = .ok (.istore_n 1, 1) := by decide +kernel
theorem dX6_wiresCut_2 : decode cX6_wiresCut 2 = .ok (.iconst 0, 1) := by decide +kernel
theorem dX6_wiresCut_3 : decode cX6_wiresCut 3 = .ok (.istore_n 2, 1) := by decide +kernel
theorem dX6_wiresCut_4 : decode cX6_wiresCut 4 = .ok (.iload_n 2, 1) := by decide +kernel
theorem dX6_wiresCut_5 : decode cX6_wiresCut 5 = .ok (.aload_n 0, 1) := by decide +kernel
theorem dX6_wiresCut_6 : decode cX6_wiresCut 6 = .ok (.getfield 29, 3) := by decide +kernel
theorem dX6_wiresCut_9 : decode cX6_wiresCut 9 = .ok (.arraylength, 1) := by decide +kernel
theorem dX6_wiresCut_10 : decode cX6_wiresCut 10 = .ok (.if_icmp .ge 49, 3) := by decide +kernel
theorem dX6_wiresCut_13 : decode cX6_wiresCut 13 = .ok (.aload_n 0, 1) := by decide +kernel
theorem dX6_wiresCut_14 : decode cX6_wiresCut 14 = .ok (.getfield 29, 3) := by decide +kernel
theorem dX6_wiresCut_17 : decode cX6_wiresCut 17 = .ok (.iload_n 2, 1) := by decide +kernel
theorem dX6_wiresCut_18 : decode cX6_wiresCut 18 = .ok (.aaload, 1) := by decide +kernel
theorem dX6_wiresCut_19 : decode cX6_wiresCut 19 = .ok (.astore_n 3, 1) := by decide +kernel
theorem dX6_wiresCut_20 : decode cX6_wiresCut 20 = .ok (.iload_n 1, 1) := by decide +kernel
theorem dX6_wiresCut_21 : decode cX6_wiresCut 21 = .ok (.aload_n 3, 1) := by decide +kernel
theorem dX6_wiresCut_22 : decode cX6_wiresCut 22 = .ok (.ifnull 25, 3) := by decide +kernel
theorem dX6_wiresCut_25 : decode cX6_wiresCut 25 = .ok (.aload_n 3, 1) := by decide +kernel
theorem dX6_wiresCut_26 : decode cX6_wiresCut 26 = .ok (.getfield 197, 3) := by decide +kernel
theorem dX6_wiresCut_29 : decode cX6_wiresCut 29 = .ok (.ifCond .eq 18, 3) := by decide +kernel
theorem dX6_wiresCut_32 : decode cX6_wiresCut 32 = .ok (.aload_n 3, 1) := by decide +kernel
theorem dX6_wiresCut_33 : decode cX6_wiresCut 33 = .ok (.getfield 375, 3) := by decide +kernel
theorem dX6_wiresCut_36 : decode cX6_wiresCut 36 = .ok (.aload_n 3, 1) := by decide +kernel
theorem dX6_wiresCut_37 : decode cX6_wiresCut 37 = .ok (.getfield 363, 3) := by decide +kernel
theorem dX6_wiresCut_40 : decode cX6_wiresCut 40 = .ok (.if_icmp .ge 7, 3) := by decide +kernel
theorem dX6_wiresCut_43 : decode cX6_wiresCut 43 = .ok (.iconst 1, 1) := by decide +kernel
theorem dX6_wiresCut_44 : decode cX6_wiresCut 44 = .ok (.goto 4, 3) := by decide +kernel
theorem dX6_wiresCut_47 : decode cX6_wiresCut 47 = .ok (.iconst 0, 1) := by decide +kernel
theorem dX6_wiresCut_48 : decode cX6_wiresCut 48 = .ok (.invokestatic 67, 3) := by decide +kernel
theorem dX6_wiresCut_51 : decode cX6_wiresCut 51 = .ok (.iadd, 1) := by decide +kernel
theorem dX6_wiresCut_52 : decode cX6_wiresCut 52 = .ok (.istore_n 1, 1) := by decide +kernel
theorem dX6_wiresCut_53 : decode cX6_wiresCut 53 = .ok (.iinc 2 1, 3) := by decide +kernel
theorem dX6_wiresCut_56 : decode cX6_wiresCut 56 = .ok (.goto (-52), 3) := by decide +kernel
theorem dX6_wiresCut_59 : decode cX6_wiresCut 59 = .ok (.iload_n 1, 1) := by decide +kernel
theorem dX6_wiresCut_60 : decode cX6_wiresCut 60 = .ok (.ireturn, 1) := by decide +kernel
theorem dX6_messagesHeld_0 : decode cX6_messagesHeld 0 = .ok (.iconst 0, 1) := by decide +kernel
theorem dX6_messagesHeld_1 : decode cX6_messagesHeld 1 = .ok (.istore_n 1, 1) := by decide +kernel
theorem dX6_messagesHeld_2 : decode cX6_messagesHeld 2 = .ok (.iconst 0, 1) := by decide +kernel
theorem dX6_messagesHeld_3 : decode cX6_messagesHeld 3 = .ok (.istore_n 2, 1) := by decide +kernel
theorem dX6_messagesHeld_4 : decode cX6_messagesHeld 4 = .ok (.iload_n 2, 1) := by decide +kernel
theorem dX6_messagesHeld_5 : decode cX6_messagesHeld 5 = .ok (.aload_n 0, 1) := by decide +kernel
theorem dX6_messagesHeld_6 : decode cX6_messagesHeld 6 = .ok (.getfield 228, 3) := by decide +kernel
theorem dX6_messagesHeld_9 : decode cX6_messagesHeld 9 = .ok (.if_icmp .ge 33, 3) := by decide +kernel
theorem dX6_messagesHeld_12 : decode cX6_messagesHeld 12 = .ok (.aload_n 0, 1) := by decide +kernel
theorem dX6_messagesHeld_13 : decode cX6_messagesHeld 13 = .ok (.iload_n 2, 1) := by decide +kernel
theorem dX6_messagesHeld_14 : decode cX6_messagesHeld 14 = .ok (.invokevirtual 55, 3) := by decide +kernel
theorem dX6_messagesHeld_17 : decode cX6_messagesHeld 17 = .ok (.astore_n 3, 1) := by decide +kernel
theorem dX6_messagesHeld_18 : decode cX6_messagesHeld 18 = .ok (.iload_n 1, 1) := by decide +kernel
theorem dX6_messagesHeld_19 : decode cX6_messagesHeld 19 = .ok (.aload_n 3, 1) := by decide +kernel
theorem dX6_messagesHeld_20 : decode cX6_messagesHeld 20 = .ok (.ifnonnull 7, 3) := by decide +kernel
theorem dX6_messagesHeld_23 : decode cX6_messagesHeld 23 = .ok (.iconst 0, 1) := by decide +kernel
theorem dX6_messagesHeld_24 : decode cX6_messagesHeld 24 = .ok (.goto 10, 3) := by decide +kernel
theorem dX6_messagesHeld_27 : decode cX6_messagesHeld 27 = .ok (.aload_n 3, 1) := by decide +kernel
theorem dX6_messagesHeld_28 : decode cX6_messagesHeld 28 = .ok (.getfield 97, 3) := by decide +kernel
theorem dX6_messagesHeld_31 : decode cX6_messagesHeld 31 = .ok (.getfield 100, 3) := by decide +kernel
theorem dX6_messagesHeld_34 : decode cX6_messagesHeld 34 = .ok (.iadd, 1) := by decide +kernel
theorem dX6_messagesHeld_35 : decode cX6_messagesHeld 35 = .ok (.istore_n 1, 1) := by decide +kernel
theorem dX6_messagesHeld_36 : decode cX6_messagesHeld 36 = .ok (.iinc 2 1, 3) := by decide +kernel
theorem dX6_messagesHeld_39 : decode cX6_messagesHeld 39 = .ok (.goto (-35), 3) := by decide +kernel
theorem dX6_messagesHeld_42 : decode cX6_messagesHeld 42 = .ok (.iload_n 1, 1) := by decide +kernel
theorem dX6_messagesHeld_43 : decode cX6_messagesHeld 43 = .ok (.ireturn, 1) := by decide +kernel
theorem dX6_messagesWaiting_0 : decode cX6_messagesWaiting 0 = .ok (.iconst 0, 1) := by decide +kernel
theorem dX6_messagesWaiting_1 : decode cX6_messagesWaiting 1 = .ok (.istore_n 1, 1) := by decide +kernel
theorem dX6_messagesWaiting_2 : decode cX6_messagesWaiting 2 = .ok (.iconst 0, 1) := by decide +kernel
theorem dX6_messagesWaiting_3 : decode cX6_messagesWaiting 3 = .ok (.istore_n 2, 1) := by decide +kernel
theorem dX6_messagesWaiting_4 : decode cX6_messagesWaiting 4 = .ok (.iload_n 2, 1) := by decide +kernel
theorem dX6_messagesWaiting_5 : decode cX6_messagesWaiting 5 = .ok (.aload_n 0, 1) := by decide +kernel
theorem dX6_messagesWaiting_6 : decode cX6_messagesWaiting 6 = .ok (.getfield 110, 3) := by decide +kernel
theorem dX6_messagesWaiting_9 : decode cX6_messagesWaiting 9 = .ok (.if_icmp .ge 33, 3) := by decide +kernel
theorem dX6_messagesWaiting_12 : decode cX6_messagesWaiting 12 = .ok (.aload_n 0, 1) := by decide +kernel
theorem dX6_messagesWaiting_13 : decode cX6_messagesWaiting 13 = .ok (.iload_n 2, 1) := by decide +kernel
theorem dX6_messagesWaiting_14 : decode cX6_messagesWaiting 14 = .ok (.invokevirtual 103, 3) := by decide +kernel
theorem dX6_messagesWaiting_17 : decode cX6_messagesWaiting 17 = .ok (.astore_n 3, 1) := by decide +kernel
theorem dX6_messagesWaiting_18 : decode cX6_messagesWaiting 18 = .ok (.iload_n 1, 1) := by decide +kernel
theorem dX6_messagesWaiting_19 : decode cX6_messagesWaiting 19 = .ok (.aload_n 3, 1) := by decide +kernel
theorem dX6_messagesWaiting_20 : decode cX6_messagesWaiting 20 = .ok (.ifnonnull 7, 3) := by decide +kernel
theorem dX6_messagesWaiting_23 : decode cX6_messagesWaiting 23 = .ok (.iconst 0, 1) := by decide +kernel
theorem dX6_messagesWaiting_24 : decode cX6_messagesWaiting 24 = .ok (.goto 10, 3) := by decide +kernel
theorem dX6_messagesWaiting_27 : decode cX6_messagesWaiting 27 = .ok (.aload_n 3, 1) := by decide +kernel
theorem dX6_messagesWaiting_28 : decode cX6_messagesWaiting 28 = .ok (.getfield 163, 3) := by decide +kernel
theorem dX6_messagesWaiting_31 : decode cX6_messagesWaiting 31 = .ok (.getfield 100, 3) := by decide +kernel
theorem dX6_messagesWaiting_34 : decode cX6_messagesWaiting 34 = .ok (.iadd, 1) := by decide +kernel
theorem dX6_messagesWaiting_35 : decode cX6_messagesWaiting 35 = .ok (.istore_n 1, 1) := by decide +kernel
theorem dX6_messagesWaiting_36 : decode cX6_messagesWaiting 36 = .ok (.iinc 2 1, 3) := by decide +kernel
theorem dX6_messagesWaiting_39 : decode cX6_messagesWaiting 39 = .ok (.goto (-35), 3) := by decide +kernel
theorem dX6_messagesWaiting_42 : decode cX6_messagesWaiting 42 = .ok (.iload_n 1, 1) := by decide +kernel
theorem dX6_messagesWaiting_43 : decode cX6_messagesWaiting 43 = .ok (.ireturn, 1) := by decide +kernel
end
section
theorem dX7_init_0 : decode cX7_init 0 = .ok (.aload_n 0, 1) := by decide +kernel
theorem dX7_init_1 : decode cX7_init 1 = .ok (.invokespecial 1, 3) := by decide +kernel
theorem dX7_init_4 : decode cX7_init 4 = .ok (.aload_n 0, 1) := by decide +kernel
theorem dX7_init_5 : decode cX7_init 5 = .ok (.bipush 40, 2) := by decide +kernel
theorem dX7_init_7 : decode cX7_init 7 = .ok (.newarray .int, 2) := by decide +kernel
theorem dX7_init_9 : decode cX7_init 9 = .ok (.putfield 7, 3) := by decide +kernel
theorem dX7_init_12 : decode cX7_init 12 = .ok (.aload_n 0, 1) := by decide +kernel
theorem dX7_init_13 : decode cX7_init 13 = .ok (.bipush 40, 2) := by decide +kernel
theorem dX7_init_15 : decode cX7_init 15 = .ok (.newarray .int, 2) := by decide +kernel
theorem dX7_init_17 : decode cX7_init 17 = .ok (.putfield 13, 3) := by decide +kernel
theorem dX7_init_20 : decode cX7_init 20 = .ok (.aload_n 0, 1) := by decide +kernel
theorem dX7_init_21 : decode cX7_init 21 = .ok (.bipush 40, 2) := by decide +kernel
theorem dX7_init_23 : decode cX7_init 23 = .ok (.newarray .int, 2) := by decide +kernel
theorem dX7_init_25 : decode cX7_init 25 = .ok (.putfield 16, 3) := by decide +kernel
theorem dX7_init_28 : decode cX7_init 28 = .ok (.aload_n 0, 1) := by decide +kernel
theorem dX7_init_29 : decode cX7_init 29 = .ok (.bipush 40, 2) := by decide +kernel
theorem dX7_init_31 : decode cX7_init 31 = .ok (.newarray .int, 2) := by decide +kernel
theorem dX7_init_33 : decode cX7_init 33 = .ok (.putfield 19, 3) := by decide +kernel
theorem dX7_init_36 : decode cX7_init 36 = .ok (.aload_n 0, 1) := by decide +kernel
theorem dX7_init_37 : decode cX7_init 37 = .ok (.bipush 40, 2) := by decide +kernel
theorem dX7_init_39 : decode cX7_init 39 = .ok (.newarray .int, 2) := by decide +kernel
theorem dX7_init_41 : decode cX7_init 41 = .ok (.putfield 22, 3) := by decide +kernel
theorem dX7_init_44 : decode cX7_init 44 = .ok (.aload_n 0, 1) := by decide +kernel
theorem dX7_init_45 : decode cX7_init 45 = .ok (.bipush 40, 2) := by decide +kernel
theorem dX7_init_47 : decode cX7_init 47 = .ok (.newarray .boolean, 2) := by decide +kernel
theorem dX7_init_49 : decode cX7_init 49 = .ok (.putfield 25, 3) := by decide +kernel
theorem dX7_init_52 : decode cX7_init 52 = .ok (.aload_n 0, 1) := by decide +kernel
theorem dX7_init_53 : decode cX7_init 53 = .ok (.bipush 40, 2) := by decide +kernel
theorem dX7_init_55 : decode cX7_init 55 = .ok (.newarray .boolean, 2) := by decide +kernel
theorem dX7_init_57 : decode cX7_init 57 = .ok (.putfield 29, 3) := by decide +kernel
theorem dX7_init_60 : decode cX7_init 60 = .ok (.aload_n 0, 1) := by decide +kernel
theorem dX7_init_61 : decode cX7_init 61 = .ok (.bipush 40, 2) := by decide +kernel
theorem dX7_init_63 : decode cX7_init 63 = .ok (.newarray .int, 2) := by decide +kernel
theorem dX7_init_65 : decode cX7_init 65 = .ok (.putfield 32, 3) := by decide +kernel
theorem dX7_init_68 : decode cX7_init 68 = .ok (.aload_n 0, 1) := by decide +kernel
theorem dX7_init_69 : decode cX7_init 69 = .ok (.bipush 100, 2) := by decide +kernel
theorem dX7_init_71 : decode cX7_init 71 = .ok (.newarray .int, 2) := by decide +kernel
theorem dX7_init_73 : decode cX7_init 73 = .ok (.putfield 35, 3) := by decide +kernel
theorem dX7_init_76 : decode cX7_init 76 = .ok (.aload_n 0, 1) := by decide +kernel
theorem dX7_init_77 : decode cX7_init 77 = .ok (.bipush 100, 2) := by decide +kernel
theorem dX7_init_79 : decode cX7_init 79 = .ok (.newarray .int, 2) := by decide +kernel
theorem dX7_init_81 : decode cX7_init 81 = .ok (.putfield 38, 3) := by decide +kernel
theorem dX7_init_84 : decode cX7_init 84 = .ok (.aload_n 0, 1) := by decide +kernel
theorem dX7_init_85 : decode cX7_init 85 = .ok (.bipush 100, 2) := by decide +kernel
theorem dX7_init_87 : decode cX7_init 87 = .ok (.newarray .int, 2) := by decide +kernel
theorem dX7_init_89 : decode cX7_init 89 = .ok (.putfield 41, 3) := by decide +kernel
theorem dX7_init_92 : decode cX7_init 92 = .ok (.aload_n 0, 1) := by decide +kernel
theorem dX7_init_93 : decode cX7_init 93 = .ok (.bipush 100, 2) := by decide +kernel
theorem dX7_init_95 : decode cX7_init 95 = .ok (.newarray .int, 2) := by decide +kernel
theorem dX7_init_97 : decode cX7_init 97 = .ok (.putfield 44, 3) := by decide +kernel
theorem dX7_init_100 : decode cX7_init 100 = .ok (.aload_n 0, 1) := by decide +kernel
theorem dX7_init_101 : decode cX7_init 101 = .ok (.bipush 100, 2) := by decide +kernel
theorem dX7_init_103 : decode cX7_init 103 = .ok (.newarray .int, 2) := by decide +kernel
theorem dX7_init_105 : decode cX7_init 105 = .ok (.putfield 47, 3) := by decide +kernel
theorem dX7_init_108 : decode cX7_init 108 = .ok (.aload_n 0, 1) := by decide +kernel
theorem dX7_init_109 : decode cX7_init 109 = .ok (.bipush 100, 2) := by decide +kernel
theorem dX7_init_111 : decode cX7_init 111 = .ok (.newarray .int, 2) := by decide +kernel
theorem dX7_init_113 : decode cX7_init 113 = .ok (.putfield 50, 3) := by decide +kernel
theorem dX7_init_116 : decode cX7_init 116 = .ok (.aload_n 0, 1) := by decide +kernel
theorem dX7_init_117 : decode cX7_init 117 = .ok (.bipush 100, 2) := by decide +kernel
theorem dX7_init_119 : decode cX7_init 119 = .ok (.newarray .int, 2) := by decide +kernel
theorem dX7_init_121 : decode cX7_init 121 = .ok (.putfield 53, 3) := by decide +kernel
theorem dX7_init_124 : decode cX7_init 124 = .ok (.aload_n 0, 1) := by decide +kernel
theorem dX7_init_125 : decode cX7_init 125 = .ok (.bipush 100, 2) := by decide +kernel
theorem dX7_init_127 : decode cX7_init 127 = .ok (.newarray .int, 2) := by decide +kernel
theorem dX7_init_129 : decode cX7_init 129 = .ok (.putfield 56, 3) := by decide +kernel
theorem dX7_init_132 : decode cX7_init 132 = .ok (.aload_n 0, 1) := by decide +kernel
theorem dX7_init_133 : decode cX7_init 133 = .ok (.bipush 100, 2) := by decide +kernel
theorem dX7_init_135 : decode cX7_init 135 = .ok (.newarray .int, 2) := by decide +kernel
theorem dX7_init_137 : decode cX7_init 137 = .ok (.putfield 59, 3) := by decide +kernel
theorem dX7_init_140 : decode cX7_init 140 = .ok (.aload_n 0, 1) := by decide +kernel
theorem dX7_init_141 : decode cX7_init 141 = .ok (.bipush 100, 2) := by decide +kernel
theorem dX7_init_143 : decode cX7_init 143 = .ok (.newarray .int, 2) := by decide +kernel
theorem dX7_init_145 : decode cX7_init 145 = .ok (.putfield 62, 3) := by decide +kernel
theorem dX7_init_148 : decode cX7_init 148 = .ok (.aload_n 0, 1) := by decide +kernel
theorem dX7_init_149 : decode cX7_init 149 = .ok (.bipush 100, 2) := by decide +kernel
theorem dX7_init_151 : decode cX7_init 151 = .ok (.newarray .int, 2) := by decide +kernel
theorem dX7_init_153 : decode cX7_init 153 = .ok (.putfield 65, 3) := by decide +kernel
theorem dX7_init_156 : decode cX7_init 156 = .ok (.aload_n 0, 1) := by decide +kernel
theorem dX7_init_157 : decode cX7_init 157 = .ok (.bipush 100, 2) := by decide +kernel
theorem dX7_init_159 : decode cX7_init 159 = .ok (.newarray .int, 2) := by decide +kernel
theorem dX7_init_161 : decode cX7_init 161 = .ok (.putfield 68, 3) := by decide +kernel
theorem dX7_init_164 : decode cX7_init 164 = .ok (.aload_n 0, 1) := by decide +kernel
theorem dX7_init_165 : decode cX7_init 165 = .ok (.bipush 100, 2) := by decide +kernel
theorem dX7_init_167 : decode cX7_init 167 = .ok (.newarray .int, 2) := by decide +kernel
theorem dX7_init_169 : decode cX7_init 169 = .ok (.putfield 71, 3) := by decide +kernel
theorem dX7_init_172 : decode cX7_init 172 = .ok (.aload_n 0, 1) := by decide +kernel
theorem dX7_init_173 : decode cX7_init 173 = .ok (.bipush 100, 2) := by decide +kernel
theorem dX7_init_175 : decode cX7_init 175 = .ok (.newarray .int, 2) := by decide +kernel
theorem dX7_init_177 : decode cX7_init 177 = .ok (.putfield 74, 3) := by decide +kernel
theorem dX7_init_180 : decode cX7_init 180 = .ok (.aload_n 0, 1) := by decide +kernel
theorem dX7_init_181 : decode cX7_init 181 = .ok (.bipush 40, 2) := by decide +kernel
theorem dX7_init_183 : decode cX7_init 183 = .ok (.newarray .int, 2) := by decide +kernel
theorem dX7_init_185 : decode cX7_init 185 = .ok (.putfield 77, 3) := by decide +kernel
theorem dX7_init_188 : decode cX7_init 188 = .ok (.aload_n 0, 1) := by decide +kernel
theorem dX7_init_189 : decode cX7_init 189 = .ok (.bipush 40, 2) := by decide +kernel
theorem dX7_init_191 : decode cX7_init 191 = .ok (.newarray .int, 2) := by decide +kernel
theorem dX7_init_193 : decode cX7_init 193 = .ok (.putfield 80, 3) := by decide +kernel
theorem dX7_init_196 : decode cX7_init 196 = .ok (.aload_n 0, 1) := by decide +kernel
theorem dX7_init_197 : decode cX7_init 197 = .ok (.bipush 40, 2) := by decide +kernel
theorem dX7_init_199 : decode cX7_init 199 = .ok (.newarray .int, 2) := by decide +kernel
theorem dX7_init_201 : decode cX7_init 201 = .ok (.putfield 83, 3) := by decide +kernel
theorem dX7_init_204 : decode cX7_init 204 = .ok (.aload_n 0, 1) := by decide +kernel
theorem dX7_init_205 : decode cX7_init 205 = .ok (.bipush 40, 2) := by decide +kernel
theorem dX7_init_207 : decode cX7_init 207 = .ok (.newarray .boolean, 2) := by decide +kernel
theorem dX7_init_209 : decode cX7_init 209 = .ok (.putfield 86, 3) := by decide +kernel
theorem dX7_init_212 : decode cX7_init 212 = .ok (.aload_n 0, 1) := by decide +kernel
theorem dX7_init_213 : decode cX7_init 213 = .ok (.sipush 400, 3) := by decide +kernel
theorem dX7_init_216 : decode cX7_init 216 = .ok (.newarray .int, 2) := by decide +kernel
theorem dX7_init_218 : decode cX7_init 218 = .ok (.putfield 89, 3) := by decide +kernel
theorem dX7_init_221 : decode cX7_init 221 = .ok (.aload_n 0, 1) := by decide +kernel
theorem dX7_init_222 : decode cX7_init 222 = .ok (.sipush 400, 3) := by decide +kernel
theorem dX7_init_225 : decode cX7_init 225 = .ok (.newarray .int, 2) := by decide +kernel
theorem dX7_init_227 : decode cX7_init 227 = .ok (.putfield 92, 3) := by decide +kernel
theorem dX7_init_230 : decode cX7_init 230 = .ok (.aload_n 0, 1) := by decide +kernel
theorem dX7_init_231 : decode cX7_init 231 = .ok (.sipush 400, 3) := by decide +kernel
theorem dX7_init_234 : decode cX7_init 234 = .ok (.newarray .int, 2) := by decide +kernel
theorem dX7_init_236 : decode cX7_init 236 = .ok (.putfield 95, 3) := by decide +kernel
theorem dX7_init_239 : decode cX7_init 239 = .ok (.aload_n 0, 1) := by decide +kernel
theorem dX7_init_240 : decode cX7_init 240 = .ok (.sipush 400, 3) := by decide +kernel
theorem dX7_init_243 : decode cX7_init 243 = .ok (.newarray .int, 2) := by decide +kernel
theorem dX7_init_245 : decode cX7_init 245 = .ok (.putfield 98, 3) := by decide +kernel
theorem dX7_init_248 : decode cX7_init 248 = .ok (.aload_n 0, 1) := by decide +kernel
theorem dX7_init_249 : decode cX7_init 249 = .ok (.sipush 400, 3) := by decide +kernel
theorem dX7_init_252 : decode cX7_init 252 = .ok (.newarray .int, 2) := by decide +kernel
theorem dX7_init_254 : decode cX7_init 254 = .ok (.putfield 101, 3) := by decide +kernel
theorem dX7_init_257 : decode cX7_init 257 = .ok (.aload_n 0, 1) := by decide +kernel
theorem dX7_init_258 : decode cX7_init 258 = .ok (.sipush 400, 3) := by decide +kernel
theorem dX7_init_261 : decode cX7_init 261 = .ok (.newarray .int, 2) := by decide +kernel
theorem dX7_init_263 : decode cX7_init 263 = .ok (.putfield 104, 3) := by decide +kernel
theorem dX7_init_266 : decode cX7_init 266 = .ok (.aload_n 0, 1) := by decide +kernel
theorem dX7_init_267 : decode cX7_init 267 = .ok (.sipush 400, 3) := by decide +kernel
theorem dX7_init_270 : decode cX7_init 270 = .ok (.newarray .int, 2) := by decide +kernel
theorem dX7_init_272 : decode cX7_init 272 = .ok (.putfield 107, 3) := by decide +kernel
theorem dX7_init_275 : decode cX7_init 275 = .ok (.aload_n 0, 1) := by decide +kernel
theorem dX7_init_276 : decode cX7_init 276 = .ok (.sipush 400, 3) := by decide +kernel
theorem dX7_init_279 : decode cX7_init 279 = .ok (.newarray .int, 2) := by decide +kernel
theorem dX7_init_281 : decode cX7_init 281 = .ok (.putfield 110, 3) := by decide +kernel
theorem dX7_init_284 : decode cX7_init 284 = .ok (.aload_n 0, 1) := by decide +kernel
theorem dX7_init_285 : decode cX7_init 285 = .ok (.sipush 400, 3) := by decide +kernel
theorem dX7_init_288 : decode cX7_init 288 = .ok (.newarray .boolean, 2) := by decide +kernel
theorem dX7_init_290 : decode cX7_init 290 = .ok (.putfield 113, 3) := by decide +kernel
theorem dX7_init_293 : decode cX7_init 293 = .ok (.aload_n 0, 1) := by decide +kernel
theorem dX7_init_294 : decode cX7_init 294 = .ok (.bipush 16, 2) := by decide +kernel
theorem dX7_init_296 : decode cX7_init 296 = .ok (.newarray .boolean, 2) := by decide +kernel
theorem dX7_init_298 : decode cX7_init 298 = .ok (.putfield 116, 3) := by decide +kernel
theorem dX7_init_301 : decode cX7_init 301 = .ok (.aload_n 0, 1) := by decide +kernel
theorem dX7_init_302 : decode cX7_init 302 = .ok (.sipush 400, 3) := by decide +kernel
theorem dX7_init_305 : decode cX7_init 305 = .ok (.newarray .int, 2) := by decide +kernel
theorem dX7_init_307 : decode cX7_init 307 = .ok (.putfield 119, 3) := by decide +kernel
theorem dX7_init_310 : decode cX7_init 310 = .ok (.aload_n 0, 1) := by decide +kernel
theorem dX7_init_311 : decode cX7_init 311 = .ok (.sipush 400, 3) := by decide +kernel
theorem dX7_init_314 : decode cX7_init 314 = .ok (.newarray .int, 2) := by decide +kernel
theorem dX7_init_316 : decode cX7_init 316 = .ok (.putfield 122, 3) := by decide +kernel
theorem dX7_init_319 : decode cX7_init 319 = .ok (.aload_n 0, 1) := by decide +kernel
theorem dX7_init_320 : decode cX7_init 320 = .ok (.sipush 400, 3) := by decide +kernel
theorem dX7_init_323 : decode cX7_init 323 = .ok (.newarray .int, 2) := by decide +kernel
theorem dX7_init_325 : decode cX7_init 325 = .ok (.putfield 125, 3) := by decide +kernel
theorem dX7_init_328 : decode cX7_init 328 = .ok (.aload_n 0, 1) := by decide +kernel
theorem dX7_init_329 : decode cX7_init 329 = .ok (.iconst 0, 1) := by decide +kernel
theorem dX7_init_330 : decode cX7_init 330 = .ok (.putfield 128, 3) := by decide +kernel
theorem dX7_init_333 : decode cX7_init 333 = .ok (.return_, 1) := by decide +kernel
theorem dX7_in_0 : decode cX7_in 0 = .ok (.iload_n 0, 1) := by decide +kernel
theorem dX7_in_1 : decode cX7_in 1 = .ok (.iload_n 1, 1) := by decide +kernel
theorem dX7_in_2 : decode cX7_in 2 = .ok (.if_icmp .lt 12, 3) := by decide +kernel
theorem dX7_in_5 : decode cX7_in 5 = .ok (.iload_n 0, 1) := by decide +kernel
theorem dX7_in_6 : decode cX7_in 6 = .ok (.iload_n 2, 1) := by decide +kernel
theorem dX7_in_7 : decode cX7_in 7 = .ok (.if_icmp .gt 7, 3) := by decide +kernel
theorem dX7_in_10 : decode cX7_in 10 = .ok (.iconst 1, 1) := by decide +kernel
theorem dX7_in_11 : decode cX7_in 11 = .ok (.goto 4, 3) := by decide +kernel
theorem dX7_in_14 : decode cX7_in 14 = .ok (.iconst 0, 1) := by decide +kernel
theorem dX7_in_15 : decode cX7_in 15 = .ok (.ireturn, 1) := by decide +kernel
theorem dX7_isThing_0 : decode cX7_isThing 0 = .ok (.iload_n 1, 1) := by decide +kernel
theorem dX7_isThing_1 : decode cX7_isThing 1 = .ok (.iconst 0, 1) := by decide +kernel
theorem dX7_isThing_2 : decode cX7_isThing 2 = .ok (.aload_n 0, 1) := by decide +kernel
theorem dX7_isThing_3 : decode cX7_isThing 3 = .ok (.getfield 128, 3) := by decide +kernel
theorem dX7_isThing_6 : decode cX7_isThing 6 = .ok (.iconst 1, 1) := by decide +kernel
theorem dX7_isThing_7 : decode cX7_isThing 7 = .ok (.isub, 1) := by decide +kernel
theorem dX7_isThing_8 : decode cX7_isThing 8 = .ok (.invokestatic 132, 3) := by decide +kernel
theorem dX7_isThing_11 : decode cX7_isThing 11 = .ok (.ireturn, 1) := by decide +kernel
theorem dX7_isPromise_0 : decode cX7_isPromise 0 = .ok (.iload_n 1, 1) := by decide +kernel
theorem dX7_isPromise_1 : decode cX7_isPromise 1 = .ok (.iconst 0, 1) := by decide +kernel
theorem dX7_isPromise_2 : decode cX7_isPromise 2 = .ok (.aload_n 0, 1) := by decide +kernel
theorem dX7_isPromise_3 : decode cX7_isPromise 3 = .ok (.getfield 136, 3) := by decide +kernel
theorem dX7_isPromise_6 : decode cX7_isPromise 6 = .ok (.iconst 1, 1) := by decide +kernel
theorem dX7_isPromise_7 : decode cX7_isPromise 7 = .ok (.isub, 1) := by decide +kernel
theorem dX7_isPromise_8 : decode cX7_isPromise 8 = .ok (.invokestatic 132, 3) := by decide +kernel
theorem dX7_isPromise_11 : decode cX7_isPromise 11 = .ok (.ireturn, 1) := by decide +kernel
theorem dX7_comes_0 : decode cX7_comes 0 = .ok (.aload_n 0, 1) := by decide +kernel
theorem dX7_comes_1 : decode cX7_comes 1 = .ok (.getfield 7, 3) := by decide +kernel
theorem dX7_comes_4 : decode cX7_comes 4 = .ok (.aload_n 0, 1) := by decide +kernel
theorem dX7_comes_5 : decode cX7_comes 5 = .ok (.getfield 128, 3) := by decide +kernel
theorem dX7_comes_8 : decode cX7_comes 8 = .ok (.iload_n 1, 1) := by decide +kernel
theorem dX7_comes_9 : decode cX7_comes 9 = .ok (.iastore, 1) := by decide +kernel
theorem dX7_comes_10 : decode cX7_comes 10 = .ok (.aload_n 0, 1) := by decide +kernel
theorem dX7_comes_11 : decode cX7_comes 11 = .ok (.getfield 13, 3) := by decide +kernel
theorem dX7_comes_14 : decode cX7_comes 14 = .ok (.aload_n 0, 1) := by decide +kernel
theorem dX7_comes_15 : decode cX7_comes 15 = .ok (.getfield 128, 3) := by decide +kernel
theorem dX7_comes_18 : decode cX7_comes 18 = .ok (.iload_n 2, 1) := by decide +kernel
theorem dX7_comes_19 : decode cX7_comes 19 = .ok (.iastore, 1) := by decide +kernel
theorem dX7_comes_20 : decode cX7_comes 20 = .ok (.aload_n 0, 1) := by decide +kernel
theorem dX7_comes_21 : decode cX7_comes 21 = .ok (.getfield 16, 3) := by decide +kernel
theorem dX7_comes_24 : decode cX7_comes 24 = .ok (.aload_n 0, 1) := by decide +kernel
theorem dX7_comes_25 : decode cX7_comes 25 = .ok (.getfield 128, 3) := by decide +kernel
theorem dX7_comes_28 : decode cX7_comes 28 = .ok (.iload_n 3, 1) := by decide +kernel
theorem dX7_comes_29 : decode cX7_comes 29 = .ok (.iastore, 1) := by decide +kernel
theorem dX7_comes_30 : decode cX7_comes 30 = .ok (.aload_n 0, 1) := by decide +kernel
theorem dX7_comes_31 : decode cX7_comes 31 = .ok (.getfield 19, 3) := by decide +kernel
theorem dX7_comes_34 : decode cX7_comes 34 = .ok (.aload_n 0, 1) := by decide +kernel
theorem dX7_comes_35 : decode cX7_comes 35 = .ok (.getfield 128, 3) := by decide +kernel
theorem dX7_comes_38 : decode cX7_comes 38 = .ok (.iload 4, 2) := by decide +kernel
theorem dX7_comes_40 : decode cX7_comes 40 = .ok (.iastore, 1) := by decide +kernel
theorem dX7_comes_41 : decode cX7_comes 41 = .ok (.aload_n 0, 1) := by decide +kernel
theorem dX7_comes_42 : decode cX7_comes 42 = .ok (.getfield 22, 3) := by decide +kernel
theorem dX7_comes_45 : decode cX7_comes 45 = .ok (.aload_n 0, 1) := by decide +kernel
theorem dX7_comes_46 : decode cX7_comes 46 = .ok (.getfield 128, 3) := by decide +kernel
theorem dX7_comes_49 : decode cX7_comes 49 = .ok (.iload 5, 2) := by decide +kernel
theorem dX7_comes_51 : decode cX7_comes 51 = .ok (.iastore, 1) := by decide +kernel
theorem dX7_comes_52 : decode cX7_comes 52 = .ok (.aload_n 0, 1) := by decide +kernel
theorem dX7_comes_53 : decode cX7_comes 53 = .ok (.getfield 25, 3) := by decide +kernel
theorem dX7_comes_56 : decode cX7_comes 56 = .ok (.aload_n 0, 1) := by decide +kernel
theorem dX7_comes_57 : decode cX7_comes 57 = .ok (.getfield 128, 3) := by decide +kernel
theorem dX7_comes_60 : decode cX7_comes 60 = .ok (.iconst 0, 1) := by decide +kernel
theorem dX7_comes_61 : decode cX7_comes 61 = .ok (.bastore, 1) := by decide +kernel
theorem dX7_comes_62 : decode cX7_comes 62 = .ok (.aload_n 0, 1) := by decide +kernel
theorem dX7_comes_63 : decode cX7_comes 63 = .ok (.getfield 29, 3) := by decide +kernel
theorem dX7_comes_66 : decode cX7_comes 66 = .ok (.aload_n 0, 1) := by decide +kernel
theorem dX7_comes_67 : decode cX7_comes 67 = .ok (.getfield 128, 3) := by decide +kernel
theorem dX7_comes_70 : decode cX7_comes 70 = .ok (.iconst 0, 1) := by decide +kernel
theorem dX7_comes_71 : decode cX7_comes 71 = .ok (.bastore, 1) := by decide +kernel
theorem dX7_comes_72 : decode cX7_comes 72 = .ok (.aload_n 0, 1) := by decide +kernel
theorem dX7_comes_73 : decode cX7_comes 73 = .ok (.getfield 32, 3) := by decide +kernel
theorem dX7_comes_76 : decode cX7_comes 76 = .ok (.aload_n 0, 1) := by decide +kernel
theorem dX7_comes_77 : decode cX7_comes 77 = .ok (.getfield 128, 3) := by decide +kernel
theorem dX7_comes_80 : decode cX7_comes 80 = .ok (.iconst 0, 1) := by decide +kernel
theorem dX7_comes_81 : decode cX7_comes 81 = .ok (.iastore, 1) := by decide +kernel
theorem dX7_comes_82 : decode cX7_comes 82 = .ok (.aload_n 0, 1) := by decide +kernel
theorem dX7_comes_83 : decode cX7_comes 83 = .ok (.dup, 1) := by decide +kernel
theorem dX7_comes_84 : decode cX7_comes 84 = .ok (.getfield 128, 3) := by decide +kernel
theorem dX7_comes_87 : decode cX7_comes 87 = .ok (.iconst 1, 1) := by decide +kernel
theorem dX7_comes_88 : decode cX7_comes 88 = .ok (.iadd, 1) := by decide +kernel
theorem dX7_comes_89 : decode cX7_comes 89 = .ok (.putfield 128, 3) := by decide +kernel
theorem dX7_comes_92 : decode cX7_comes 92 = .ok (.aload_n 0, 1) := by decide +kernel
theorem dX7_comes_93 : decode cX7_comes 93 = .ok (.getfield 128, 3) := by decide +kernel
theorem dX7_comes_96 : decode cX7_comes 96 = .ok (.iconst 1, 1) := by decide +kernel
theorem dX7_comes_97 : decode cX7_comes 97 = .ok (.isub, 1) := by decide +kernel
theorem dX7_comes_98 : decode cX7_comes 98 = .ok (.ireturn, 1) := by decide +kernel
theorem dX7_thing_0 : decode cX7_thing 0 = .ok (.iload_n 2, 1) := by decide +kernel
theorem dX7_thing_1 : decode cX7_thing 1 = .ok (.ifCond .eq 38, 3) := by decide +kernel
theorem dX7_thing_4 : decode cX7_thing 4 = .ok (.iload_n 2, 1) := by decide +kernel
theorem dX7_thing_5 : decode cX7_thing 5 = .ok (.iconst 2, 1) := by decide +kernel
theorem dX7_thing_6 : decode cX7_thing 6 = .ok (.if_icmp .eq 33, 3) := by decide +kernel
theorem dX7_thing_9 : decode cX7_thing 9 = .ok (.iload_n 2, 1) := by decide +kernel
theorem dX7_thing_10 : decode cX7_thing 10 = .ok (.iconst 1, 1) := by decide +kernel
theorem dX7_thing_11 : decode cX7_thing 11 = .ok (.if_icmp .ne 7, 3) := by decide +kernel
theorem dX7_thing_14 : decode cX7_thing 14 = .ok (.iload_n 3, 1) := by decide +kernel
theorem dX7_thing_15 : decode cX7_thing 15 = .ok (.ifCond .ge 24, 3) := by decide +kernel
theorem dX7_thing_18 : decode cX7_thing 18 = .ok (.iload_n 2, 1) := by decide +kernel
theorem dX7_thing_19 : decode cX7_thing 19 = .ok (.iconst 5, 1) := by decide +kernel
theorem dX7_thing_20 : decode cX7_thing 20 = .ok (.if_icmp .eq 9, 3) := by decide +kernel
theorem dX7_thing_23 : decode cX7_thing 23 = .ok (.iload_n 2, 1) := by decide +kernel
theorem dX7_thing_24 : decode cX7_thing 24 = .ok (.bipush 6, 2) := by decide +kernel
theorem dX7_thing_26 : decode cX7_thing 26 = .ok (.if_icmp .ne 17, 3) := by decide +kernel
theorem dX7_thing_29 : decode cX7_thing 29 = .ok (.iload_n 3, 1) := by decide +kernel
theorem dX7_thing_30 : decode cX7_thing 30 = .ok (.iconst 1, 1) := by decide +kernel
theorem dX7_thing_31 : decode cX7_thing 31 = .ok (.bipush 20, 2) := by decide +kernel
theorem dX7_thing_33 : decode cX7_thing 33 = .ok (.invokestatic 132, 3) := by decide +kernel
theorem dX7_thing_36 : decode cX7_thing 36 = .ok (.ifCond .eq 7, 3) := by decide +kernel
theorem dX7_thing_39 : decode cX7_thing 39 = .ok (.iconst 1, 1) := by decide +kernel
theorem dX7_thing_40 : decode cX7_thing 40 = .ok (.goto 4, 3) := by decide +kernel
theorem dX7_thing_43 : decode cX7_thing 43 = .ok (.iconst 0, 1) := by decide +kernel
theorem dX7_thing_44 : decode cX7_thing 44 = .ok (.istore 4, 2) := by decide +kernel
theorem dX7_thing_46 : decode cX7_thing 46 = .ok (.iload_n 1, 1) := by decide +kernel
theorem dX7_thing_47 : decode cX7_thing 47 = .ok (.iconst 0, 1) := by decide +kernel
theorem dX7_thing_48 : decode cX7_thing 48 = .ok (.iconst 3, 1) := by decide +kernel
theorem dX7_thing_49 : decode cX7_thing 49 = .ok (.invokestatic 132, 3) := by decide +kernel
theorem dX7_thing_52 : decode cX7_thing 52 = .ok (.ifCond .eq 8, 3) := by decide +kernel
theorem dX7_thing_55 : decode cX7_thing 55 = .ok (.iload 4, 2) := by decide +kernel
theorem dX7_thing_57 : decode cX7_thing 57 = .ok (.ifCond .ne 5, 3) := by decide +kernel
theorem dX7_thing_60 : decode cX7_thing 60 = .ok (.iconst (-1), 1) := by decide +kernel
theorem dX7_thing_61 : decode cX7_thing 61 = .ok (.ireturn, 1) := by decide +kernel
theorem dX7_thing_62 : decode cX7_thing 62 = .ok (.aload_n 0, 1) := by decide +kernel
theorem dX7_thing_63 : decode cX7_thing 63 = .ok (.getfield 128, 3) := by decide +kernel
theorem dX7_thing_66 : decode cX7_thing 66 = .ok (.bipush 40, 2) := by decide +kernel
theorem dX7_thing_68 : decode cX7_thing 68 = .ok (.if_icmp .ne 8, 3) := by decide +kernel
theorem dX7_thing_71 : decode cX7_thing 71 = .ok (.bipush (-3), 2) := by decide +kernel
theorem dX7_thing_73 : decode cX7_thing 73 = .ok (.goto 13, 3) := by decide +kernel
theorem dX7_thing_76 : decode cX7_thing 76 = .ok (.aload_n 0, 1) := by decide +kernel
theorem dX7_thing_77 : decode cX7_thing 77 = .ok (.iload_n 1, 1) := by decide +kernel
theorem dX7_thing_78 : decode cX7_thing 78 = .ok (.iload_n 2, 1) := by decide +kernel
theorem dX7_thing_79 : decode cX7_thing 79 = .ok (.iload_n 3, 1) := by decide +kernel
theorem dX7_thing_80 : decode cX7_thing 80 = .ok (.bipush (-9), 2) := by decide +kernel
theorem dX7_thing_82 : decode cX7_thing 82 = .ok (.iconst 0, 1) := by decide +kernel
theorem dX7_thing_83 : decode cX7_thing 83 = .ok (.invokevirtual 139, 3) := by decide +kernel
theorem dX7_thing_86 : decode cX7_thing 86 = .ok (.ireturn, 1) := by decide +kernel
theorem dX7_guard_0 : decode cX7_guard 0 = .ok (.iload_n 1, 1) := by decide +kernel
theorem dX7_guard_1 : decode cX7_guard 1 = .ok (.iconst 0, 1) := by decide +kernel
theorem dX7_guard_2 : decode cX7_guard 2 = .ok (.iconst 3, 1) := by decide +kernel
theorem dX7_guard_3 : decode cX7_guard 3 = .ok (.invokestatic 132, 3) := by decide +kernel
theorem dX7_guard_6 : decode cX7_guard 6 = .ok (.ifCond .eq 22, 3) := by decide +kernel
theorem dX7_guard_9 : decode cX7_guard 9 = .ok (.aload_n 0, 1) := by decide +kernel
theorem dX7_guard_10 : decode cX7_guard 10 = .ok (.iload_n 2, 1) := by decide +kernel
theorem dX7_guard_11 : decode cX7_guard 11 = .ok (.invokevirtual 143, 3) := by decide +kernel
theorem dX7_guard_14 : decode cX7_guard 14 = .ok (.ifCond .eq 14, 3) := by decide +kernel
theorem dX7_guard_17 : decode cX7_guard 17 = .ok (.iload_n 3, 1) := by decide +kernel
theorem dX7_guard_18 : decode cX7_guard 18 = .ok (.iconst 0, 1) := by decide +kernel
theorem dX7_guard_19 : decode cX7_guard 19 = .ok (.sipush 255, 3) := by decide +kernel
theorem dX7_guard_22 : decode cX7_guard 22 = .ok (.invokestatic 132, 3) := by decide +kernel
theorem dX7_guard_25 : decode cX7_guard 25 = .ok (.ifCond .ne 5, 3) := by decide +kernel
theorem dX7_guard_28 : decode cX7_guard 28 = .ok (.iconst (-1), 1) := by decide +kernel
theorem dX7_guard_29 : decode cX7_guard 29 = .ok (.ireturn, 1) := by decide +kernel
theorem dX7_guard_30 : decode cX7_guard 30 = .ok (.aload_n 0, 1) := by decide +kernel
theorem dX7_guard_31 : decode cX7_guard 31 = .ok (.getfield 128, 3) := by decide +kernel
theorem dX7_guard_34 : decode cX7_guard 34 = .ok (.bipush 40, 2) := by decide +kernel
theorem dX7_guard_36 : decode cX7_guard 36 = .ok (.if_icmp .ne 8, 3) := by decide +kernel
theorem dX7_guard_39 : decode cX7_guard 39 = .ok (.bipush (-3), 2) := by decide +kernel
theorem dX7_guard_41 : decode cX7_guard 41 = .ok (.goto 21, 3) := by decide +kernel
theorem dX7_guard_44 : decode cX7_guard 44 = .ok (.aload_n 0, 1) := by decide +kernel
theorem dX7_guard_45 : decode cX7_guard 45 = .ok (.iload_n 1, 1) := by decide +kernel
theorem dX7_guard_46 : decode cX7_guard 46 = .ok (.iload 4, 2) := by decide +kernel
theorem dX7_guard_48 : decode cX7_guard 48 = .ok (.ifCond .eq 7, 3) := by decide +kernel
theorem dX7_guard_51 : decode cX7_guard 51 = .ok (.iconst 4, 1) := by decide +kernel
theorem dX7_guard_52 : decode cX7_guard 52 = .ok (.goto 4, 3) := by decide +kernel
theorem dX7_guard_55 : decode cX7_guard 55 = .ok (.iconst 3, 1) := by decide +kernel
theorem dX7_guard_56 : decode cX7_guard 56 = .ok (.iconst 0, 1) := by decide +kernel
theorem dX7_guard_57 : decode cX7_guard 57 = .ok (.iload_n 2, 1) := by decide +kernel
theorem dX7_guard_58 : decode cX7_guard 58 = .ok (.iload_n 3, 1) := by decide +kernel
theorem dX7_guard_59 : decode cX7_guard 59 = .ok (.invokevirtual 139, 3) := by decide +kernel
theorem dX7_guard_62 : decode cX7_guard 62 = .ok (.ireturn, 1) := by decide +kernel
theorem dX7_shut_0 : decode cX7_shut 0 = .ok (.aload_n 0, 1) := by decide +kernel
theorem dX7_shut_1 : decode cX7_shut 1 = .ok (.iload_n 1, 1) := by decide +kernel
theorem dX7_shut_2 : decode cX7_shut 2 = .ok (.invokevirtual 143, 3) := by decide +kernel
theorem dX7_shut_5 : decode cX7_shut 5 = .ok (.ifCond .eq 23, 3) := by decide +kernel
theorem dX7_shut_8 : decode cX7_shut 8 = .ok (.aload_n 0, 1) := by decide +kernel
theorem dX7_shut_9 : decode cX7_shut 9 = .ok (.getfield 13, 3) := by decide +kernel
theorem dX7_shut_12 : decode cX7_shut 12 = .ok (.iload_n 1, 1) := by decide +kernel
theorem dX7_shut_13 : decode cX7_shut 13 = .ok (.iaload, 1) := by decide +kernel
theorem dX7_shut_14 : decode cX7_shut 14 = .ok (.iconst 3, 1) := by decide +kernel
theorem dX7_shut_15 : decode cX7_shut 15 = .ok (.if_icmp .eq 15, 3) := by decide +kernel
theorem dX7_shut_18 : decode cX7_shut 18 = .ok (.aload_n 0, 1) := by decide +kernel
theorem dX7_shut_19 : decode cX7_shut 19 = .ok (.getfield 13, 3) := by decide +kernel
theorem dX7_shut_22 : decode cX7_shut 22 = .ok (.iload_n 1, 1) := by decide +kernel
theorem dX7_shut_23 : decode cX7_shut 23 = .ok (.iaload, 1) := by decide +kernel
theorem dX7_shut_24 : decode cX7_shut 24 = .ok (.iconst 4, 1) := by decide +kernel
theorem dX7_shut_25 : decode cX7_shut 25 = .ok (.if_icmp .eq 5, 3) := by decide +kernel
theorem dX7_shut_28 : decode cX7_shut 28 = .ok (.iconst (-1), 1) := by decide +kernel
theorem dX7_shut_29 : decode cX7_shut 29 = .ok (.ireturn, 1) := by decide +kernel
theorem dX7_shut_30 : decode cX7_shut 30 = .ok (.aload_n 0, 1) := by decide +kernel
theorem dX7_shut_31 : decode cX7_shut 31 = .ok (.getfield 25, 3) := by decide +kernel
theorem dX7_shut_34 : decode cX7_shut 34 = .ok (.iload_n 1, 1) := by decide +kernel
theorem dX7_shut_35 : decode cX7_shut 35 = .ok (.baload, 1) := by decide +kernel
theorem dX7_shut_36 : decode cX7_shut 36 = .ok (.ifCond .eq 7, 3) := by decide +kernel
theorem dX7_shut_39 : decode cX7_shut 39 = .ok (.iconst 1, 1) := by decide +kernel
theorem dX7_shut_40 : decode cX7_shut 40 = .ok (.goto 4, 3) := by decide +kernel
theorem dX7_shut_43 : decode cX7_shut 43 = .ok (.iconst 0, 1) := by decide +kernel
theorem dX7_shut_44 : decode cX7_shut 44 = .ok (.istore_n 3, 1) := by decide +kernel
theorem dX7_shut_45 : decode cX7_shut 45 = .ok (.aload_n 0, 1) := by decide +kernel
theorem dX7_shut_46 : decode cX7_shut 46 = .ok (.getfield 25, 3) := by decide +kernel
theorem dX7_shut_49 : decode cX7_shut 49 = .ok (.iload_n 1, 1) := by decide +kernel
theorem dX7_shut_50 : decode cX7_shut 50 = .ok (.iload_n 2, 1) := by decide +kernel
theorem dX7_shut_51 : decode cX7_shut 51 = .ok (.bastore, 1) := by decide +kernel
theorem dX7_shut_52 : decode cX7_shut 52 = .ok (.iload_n 3, 1) := by decide +kernel
theorem dX7_shut_53 : decode cX7_shut 53 = .ok (.ireturn, 1) := by decide +kernel
theorem dX7_back_0 : decode cX7_back 0 = .ok (.aload_n 0, 1) := by decide +kernel
theorem dX7_back_1 : decode cX7_back 1 = .ok (.iload_n 1, 1) := by decide +kernel
theorem dX7_back_2 : decode cX7_back 2 = .ok (.invokevirtual 143, 3) := by decide +kernel
theorem dX7_back_5 : decode cX7_back 5 = .ok (.ifCond .eq 13, 3) := by decide +kernel
theorem dX7_back_8 : decode cX7_back 8 = .ok (.aload_n 0, 1) := by decide +kernel
theorem dX7_back_9 : decode cX7_back 9 = .ok (.getfield 13, 3) := by decide +kernel
theorem dX7_back_12 : decode cX7_back 12 = .ok (.iload_n 1, 1) := by decide +kernel
theorem dX7_back_13 : decode cX7_back 13 = .ok (.iaload, 1) := by decide +kernel
theorem dX7_back_14 : decode cX7_back 14 = .ok (.iconst 4, 1) := by decide +kernel
theorem dX7_back_15 : decode cX7_back 15 = .ok (.if_icmp .eq 5, 3) := by decide +kernel
theorem dX7_back_18 : decode cX7_back 18 = .ok (.iconst (-1), 1) := by decide +kernel
theorem dX7_back_19 : decode cX7_back 19 = .ok (.ireturn, 1) := by decide +kernel
theorem dX7_back_20 : decode cX7_back 20 = .ok (.aload_n 0, 1) := by decide +kernel
theorem dX7_back_21 : decode cX7_back 21 = .ok (.getfield 29, 3) := by decide +kernel
theorem dX7_back_24 : decode cX7_back 24 = .ok (.iload_n 1, 1) := by decide +kernel
theorem dX7_back_25 : decode cX7_back 25 = .ok (.baload, 1) := by decide +kernel
theorem dX7_back_26 : decode cX7_back 26 = .ok (.ifCond .eq 7, 3) := by decide +kernel
theorem dX7_back_29 : decode cX7_back 29 = .ok (.iconst 0, 1) := by decide +kernel
theorem dX7_back_30 : decode cX7_back 30 = .ok (.goto 4, 3) := by decide +kernel
theorem dX7_back_33 : decode cX7_back 33 = .ok (.iconst 1, 1) := by decide +kernel
theorem dX7_back_34 : decode cX7_back 34 = .ok (.istore_n 2, 1) := by decide +kernel
theorem dX7_back_35 : decode cX7_back 35 = .ok (.aload_n 0, 1) := by decide +kernel
theorem dX7_back_36 : decode cX7_back 36 = .ok (.getfield 29, 3) := by decide +kernel
theorem dX7_back_39 : decode cX7_back 39 = .ok (.iload_n 1, 1) := by decide +kernel
theorem dX7_back_40 : decode cX7_back 40 = .ok (.iconst 1, 1) := by decide +kernel
theorem dX7_back_41 : decode cX7_back 41 = .ok (.bastore, 1) := by decide +kernel
theorem dX7_back_42 : decode cX7_back 42 = .ok (.iload_n 2, 1) := by decide +kernel
theorem dX7_back_43 : decode cX7_back 43 = .ok (.ireturn, 1) := by decide +kernel
theorem dX7_about_0 : decode cX7_about 0 = .ok (.aload_n 0, 1) := by decide +kernel
theorem dX7_about_1 : decode cX7_about 1 = .ok (.iload_n 1, 1) := by decide +kernel
theorem dX7_about_2 : decode cX7_about 2 = .ok (.invokevirtual 143, 3) := by decide +kernel
theorem dX7_about_5 : decode cX7_about 5 = .ok (.ifCond .ne 5, 3) := by decide +kernel
theorem dX7_about_8 : decode cX7_about 8 = .ok (.iconst (-1), 1) := by decide +kernel
theorem dX7_about_9 : decode cX7_about 9 = .ok (.ireturn, 1) := by decide +kernel
theorem dX7_about_10 : decode cX7_about 10 = .ok (.iload_n 2, 1) := by decide +kernel
theorem dX7_about_11 : decode cX7_about 11 = .ok (.tableswitch 117 0 7 #[45, 52, 59, 66, 73, 80, 95, 110], 45) := by decide +kernel
theorem dX7_about_56 : decode cX7_about 56 = .ok (.aload_n 0, 1) := by decide +kernel
theorem dX7_about_57 : decode cX7_about 57 = .ok (.getfield 7, 3) := by decide +kernel
theorem dX7_about_60 : decode cX7_about 60 = .ok (.iload_n 1, 1) := by decide +kernel
theorem dX7_about_61 : decode cX7_about 61 = .ok (.iaload, 1) := by decide +kernel
theorem dX7_about_62 : decode cX7_about 62 = .ok (.ireturn, 1) := by decide +kernel
theorem dX7_about_63 : decode cX7_about 63 = .ok (.aload_n 0, 1) := by decide +kernel
theorem dX7_about_64 : decode cX7_about 64 = .ok (.getfield 13, 3) := by decide +kernel
theorem dX7_about_67 : decode cX7_about 67 = .ok (.iload_n 1, 1) := by decide +kernel
theorem dX7_about_68 : decode cX7_about 68 = .ok (.iaload, 1) := by decide +kernel
theorem dX7_about_69 : decode cX7_about 69 = .ok (.ireturn, 1) := by decide +kernel
theorem dX7_about_70 : decode cX7_about 70 = .ok (.aload_n 0, 1) := by decide +kernel
theorem dX7_about_71 : decode cX7_about 71 = .ok (.getfield 16, 3) := by decide +kernel
theorem dX7_about_74 : decode cX7_about 74 = .ok (.iload_n 1, 1) := by decide +kernel
theorem dX7_about_75 : decode cX7_about 75 = .ok (.iaload, 1) := by decide +kernel
theorem dX7_about_76 : decode cX7_about 76 = .ok (.ireturn, 1) := by decide +kernel
theorem dX7_about_77 : decode cX7_about 77 = .ok (.aload_n 0, 1) := by decide +kernel
theorem dX7_about_78 : decode cX7_about 78 = .ok (.getfield 19, 3) := by decide +kernel
theorem dX7_about_81 : decode cX7_about 81 = .ok (.iload_n 1, 1) := by decide +kernel
theorem dX7_about_82 : decode cX7_about 82 = .ok (.iaload, 1) := by decide +kernel
theorem dX7_about_83 : decode cX7_about 83 = .ok (.ireturn, 1) := by decide +kernel
theorem dX7_about_84 : decode cX7_about 84 = .ok (.aload_n 0, 1) := by decide +kernel
theorem dX7_about_85 : decode cX7_about 85 = .ok (.getfield 22, 3) := by decide +kernel
theorem dX7_about_88 : decode cX7_about 88 = .ok (.iload_n 1, 1) := by decide +kernel
theorem dX7_about_89 : decode cX7_about 89 = .ok (.iaload, 1) := by decide +kernel
theorem dX7_about_90 : decode cX7_about 90 = .ok (.ireturn, 1) := by decide +kernel
theorem dX7_about_91 : decode cX7_about 91 = .ok (.aload_n 0, 1) := by decide +kernel
theorem dX7_about_92 : decode cX7_about 92 = .ok (.getfield 25, 3) := by decide +kernel
theorem dX7_about_95 : decode cX7_about 95 = .ok (.iload_n 1, 1) := by decide +kernel
theorem dX7_about_96 : decode cX7_about 96 = .ok (.baload, 1) := by decide +kernel
theorem dX7_about_97 : decode cX7_about 97 = .ok (.ifCond .eq 7, 3) := by decide +kernel
theorem dX7_about_100 : decode cX7_about 100 = .ok (.iconst 1, 1) := by decide +kernel
theorem dX7_about_101 : decode cX7_about 101 = .ok (.goto 4, 3) := by decide +kernel
theorem dX7_about_104 : decode cX7_about 104 = .ok (.iconst 0, 1) := by decide +kernel
theorem dX7_about_105 : decode cX7_about 105 = .ok (.ireturn, 1) := by decide +kernel
theorem dX7_about_106 : decode cX7_about 106 = .ok (.aload_n 0, 1) := by decide +kernel
theorem dX7_about_107 : decode cX7_about 107 = .ok (.getfield 29, 3) := by decide +kernel
theorem dX7_about_110 : decode cX7_about 110 = .ok (.iload_n 1, 1) := by decide +kernel
theorem dX7_about_111 : decode cX7_about 111 = .ok (.baload, 1) := by decide +kernel
theorem dX7_about_112 : decode cX7_about 112 = .ok (.ifCond .eq 7, 3) := by decide +kernel
theorem dX7_about_115 : decode cX7_about 115 = .ok (.iconst 1, 1) := by decide +kernel
theorem dX7_about_116 : decode cX7_about 116 = .ok (.goto 4, 3) := by decide +kernel
theorem dX7_about_119 : decode cX7_about 119 = .ok (.iconst 0, 1) := by decide +kernel
theorem dX7_about_120 : decode cX7_about 120 = .ok (.ireturn, 1) := by decide +kernel
theorem dX7_about_121 : decode cX7_about 121 = .ok (.aload_n 0, 1) := by decide +kernel
theorem dX7_about_122 : decode cX7_about 122 = .ok (.getfield 32, 3) := by decide +kernel
theorem dX7_about_125 : decode cX7_about 125 = .ok (.iload_n 1, 1) := by decide +kernel
theorem dX7_about_126 : decode cX7_about 126 = .ok (.iaload, 1) := by decide +kernel
theorem dX7_about_127 : decode cX7_about 127 = .ok (.ireturn, 1) := by decide +kernel
theorem dX7_about_128 : decode cX7_about 128 = .ok (.iconst (-1), 1) := by decide +kernel
theorem dX7_about_129 : decode cX7_about 129 = .ok (.ireturn, 1) := by decide +kernel
theorem dX7_posts_0 : decode cX7_posts 0 = .ok (.aload_n 0, 1) := by decide +kernel
theorem dX7_posts_1 : decode cX7_posts 1 = .ok (.getfield 89, 3) := by decide +kernel
theorem dX7_posts_4 : decode cX7_posts 4 = .ok (.aload_n 0, 1) := by decide +kernel
theorem dX7_posts_5 : decode cX7_posts 5 = .ok (.getfield 147, 3) := by decide +kernel
theorem dX7_posts_8 : decode cX7_posts 8 = .ok (.iload_n 1, 1) := by decide +kernel
theorem dX7_posts_9 : decode cX7_posts 9 = .ok (.iastore, 1) := by decide +kernel
theorem dX7_posts_10 : decode cX7_posts 10 = .ok (.aload_n 0, 1) := by decide +kernel
theorem dX7_posts_11 : decode cX7_posts 11 = .ok (.getfield 92, 3) := by decide +kernel
theorem dX7_posts_14 : decode cX7_posts 14 = .ok (.aload_n 0, 1) := by decide +kernel
theorem dX7_posts_15 : decode cX7_posts 15 = .ok (.getfield 147, 3) := by decide +kernel
theorem dX7_posts_18 : decode cX7_posts 18 = .ok (.iload_n 2, 1) := by decide +kernel
theorem dX7_posts_19 : decode cX7_posts 19 = .ok (.iastore, 1) := by decide +kernel
theorem dX7_posts_20 : decode cX7_posts 20 = .ok (.aload_n 0, 1) := by decide +kernel
theorem dX7_posts_21 : decode cX7_posts 21 = .ok (.getfield 95, 3) := by decide +kernel
theorem dX7_posts_24 : decode cX7_posts 24 = .ok (.aload_n 0, 1) := by decide +kernel
theorem dX7_posts_25 : decode cX7_posts 25 = .ok (.getfield 147, 3) := by decide +kernel
theorem dX7_posts_28 : decode cX7_posts 28 = .ok (.iload_n 3, 1) := by decide +kernel
theorem dX7_posts_29 : decode cX7_posts 29 = .ok (.iastore, 1) := by decide +kernel
theorem dX7_posts_30 : decode cX7_posts 30 = .ok (.aload_n 0, 1) := by decide +kernel
theorem dX7_posts_31 : decode cX7_posts 31 = .ok (.getfield 98, 3) := by decide +kernel
theorem dX7_posts_34 : decode cX7_posts 34 = .ok (.aload_n 0, 1) := by decide +kernel
theorem dX7_posts_35 : decode cX7_posts 35 = .ok (.getfield 147, 3) := by decide +kernel
theorem dX7_posts_38 : decode cX7_posts 38 = .ok (.iload 4, 2) := by decide +kernel
theorem dX7_posts_40 : decode cX7_posts 40 = .ok (.iastore, 1) := by decide +kernel
theorem dX7_posts_41 : decode cX7_posts 41 = .ok (.aload_n 0, 1) := by decide +kernel
theorem dX7_posts_42 : decode cX7_posts 42 = .ok (.getfield 101, 3) := by decide +kernel
theorem dX7_posts_45 : decode cX7_posts 45 = .ok (.aload_n 0, 1) := by decide +kernel
theorem dX7_posts_46 : decode cX7_posts 46 = .ok (.getfield 147, 3) := by decide +kernel
theorem dX7_posts_49 : decode cX7_posts 49 = .ok (.iload 5, 2) := by decide +kernel
theorem dX7_posts_51 : decode cX7_posts 51 = .ok (.iastore, 1) := by decide +kernel
theorem dX7_posts_52 : decode cX7_posts 52 = .ok (.aload_n 0, 1) := by decide +kernel
theorem dX7_posts_53 : decode cX7_posts 53 = .ok (.getfield 104, 3) := by decide +kernel
theorem dX7_posts_56 : decode cX7_posts 56 = .ok (.aload_n 0, 1) := by decide +kernel
theorem dX7_posts_57 : decode cX7_posts 57 = .ok (.getfield 147, 3) := by decide +kernel
theorem dX7_posts_60 : decode cX7_posts 60 = .ok (.iload 6, 2) := by decide +kernel
theorem dX7_posts_62 : decode cX7_posts 62 = .ok (.iastore, 1) := by decide +kernel
theorem dX7_posts_63 : decode cX7_posts 63 = .ok (.aload_n 0, 1) := by decide +kernel
theorem dX7_posts_64 : decode cX7_posts 64 = .ok (.getfield 107, 3) := by decide +kernel
theorem dX7_posts_67 : decode cX7_posts 67 = .ok (.aload_n 0, 1) := by decide +kernel
theorem dX7_posts_68 : decode cX7_posts 68 = .ok (.getfield 147, 3) := by decide +kernel
theorem dX7_posts_71 : decode cX7_posts 71 = .ok (.iload 7, 2) := by decide +kernel
theorem dX7_posts_73 : decode cX7_posts 73 = .ok (.iastore, 1) := by decide +kernel
theorem dX7_posts_74 : decode cX7_posts 74 = .ok (.aload_n 0, 1) := by decide +kernel
theorem dX7_posts_75 : decode cX7_posts 75 = .ok (.getfield 110, 3) := by decide +kernel
theorem dX7_posts_78 : decode cX7_posts 78 = .ok (.aload_n 0, 1) := by decide +kernel
theorem dX7_posts_79 : decode cX7_posts 79 = .ok (.getfield 147, 3) := by decide +kernel
theorem dX7_posts_82 : decode cX7_posts 82 = .ok (.iload 8, 2) := by decide +kernel
theorem dX7_posts_84 : decode cX7_posts 84 = .ok (.iastore, 1) := by decide +kernel
theorem dX7_posts_85 : decode cX7_posts 85 = .ok (.aload_n 0, 1) := by decide +kernel
theorem dX7_posts_86 : decode cX7_posts 86 = .ok (.getfield 113, 3) := by decide +kernel
theorem dX7_posts_89 : decode cX7_posts 89 = .ok (.aload_n 0, 1) := by decide +kernel
theorem dX7_posts_90 : decode cX7_posts 90 = .ok (.getfield 147, 3) := by decide +kernel
theorem dX7_posts_93 : decode cX7_posts 93 = .ok (.iload 9, 2) := by decide +kernel
theorem dX7_posts_95 : decode cX7_posts 95 = .ok (.bastore, 1) := by decide +kernel
theorem dX7_posts_96 : decode cX7_posts 96 = .ok (.aload_n 0, 1) := by decide +kernel
theorem dX7_posts_97 : decode cX7_posts 97 = .ok (.dup, 1) := by decide +kernel
theorem dX7_posts_98 : decode cX7_posts 98 = .ok (.getfield 147, 3) := by decide +kernel
theorem dX7_posts_101 : decode cX7_posts 101 = .ok (.iconst 1, 1) := by decide +kernel
theorem dX7_posts_102 : decode cX7_posts 102 = .ok (.iadd, 1) := by decide +kernel
theorem dX7_posts_103 : decode cX7_posts 103 = .ok (.putfield 147, 3) := by decide +kernel
theorem dX7_posts_106 : decode cX7_posts 106 = .ok (.return_, 1) := by decide +kernel
theorem dX7_sendsWhen_0 : decode cX7_sendsWhen 0 = .ok (.aload_n 0, 1) := by decide +kernel
theorem dX7_sendsWhen_1 : decode cX7_sendsWhen 1 = .ok (.getfield 116, 3) := by decide +kernel
theorem dX7_sendsWhen_4 : decode cX7_sendsWhen 4 = .ok (.iconst 4, 1) := by decide +kernel
theorem dX7_sendsWhen_5 : decode cX7_sendsWhen 5 = .ok (.iload_n 1, 1) := by decide +kernel
theorem dX7_sendsWhen_6 : decode cX7_sendsWhen 6 = .ok (.imul, 1) := by decide +kernel
theorem dX7_sendsWhen_7 : decode cX7_sendsWhen 7 = .ok (.aload_n 0, 1) := by decide +kernel
theorem dX7_sendsWhen_8 : decode cX7_sendsWhen 8 = .ok (.getfield 7, 3) := by decide +kernel
theorem dX7_sendsWhen_11 : decode cX7_sendsWhen 11 = .ok (.iload_n 2, 1) := by decide +kernel
theorem dX7_sendsWhen_12 : decode cX7_sendsWhen 12 = .ok (.iaload, 1) := by decide +kernel
theorem dX7_sendsWhen_13 : decode cX7_sendsWhen 13 = .ok (.iadd, 1) := by decide +kernel
theorem dX7_sendsWhen_14 : decode cX7_sendsWhen 14 = .ok (.baload, 1) := by decide +kernel
theorem dX7_sendsWhen_15 : decode cX7_sendsWhen 15 = .ok (.ifCond .ne 23, 3) := by decide +kernel
theorem dX7_sendsWhen_18 : decode cX7_sendsWhen 18 = .ok (.aload_n 0, 1) := by decide +kernel
theorem dX7_sendsWhen_19 : decode cX7_sendsWhen 19 = .ok (.iconst 2, 1) := by decide +kernel
theorem dX7_sendsWhen_20 : decode cX7_sendsWhen 20 = .ok (.iload_n 1, 1) := by decide +kernel
theorem dX7_sendsWhen_21 : decode cX7_sendsWhen 21 = .ok (.aload_n 0, 1) := by decide +kernel
theorem dX7_sendsWhen_22 : decode cX7_sendsWhen 22 = .ok (.getfield 7, 3) := by decide +kernel
theorem dX7_sendsWhen_25 : decode cX7_sendsWhen 25 = .ok (.iload_n 2, 1) := by decide +kernel
theorem dX7_sendsWhen_26 : decode cX7_sendsWhen 26 = .ok (.iaload, 1) := by decide +kernel
theorem dX7_sendsWhen_27 : decode cX7_sendsWhen 27 = .ok (.bipush (-9), 2) := by decide +kernel
theorem dX7_sendsWhen_29 : decode cX7_sendsWhen 29 = .ok (.iload_n 2, 1) := by decide +kernel
theorem dX7_sendsWhen_30 : decode cX7_sendsWhen 30 = .ok (.bipush (-9), 2) := by decide +kernel
theorem dX7_sendsWhen_32 : decode cX7_sendsWhen 32 = .ok (.iload_n 3, 1) := by decide +kernel
theorem dX7_sendsWhen_33 : decode cX7_sendsWhen 33 = .ok (.iconst 0, 1) := by decide +kernel
theorem dX7_sendsWhen_34 : decode cX7_sendsWhen 34 = .ok (.iconst 0, 1) := by decide +kernel
theorem dX7_sendsWhen_35 : decode cX7_sendsWhen 35 = .ok (.invokevirtual 150, 3) := by decide +kernel
theorem dX7_sendsWhen_38 : decode cX7_sendsWhen 38 = .ok (.return_, 1) := by decide +kernel
theorem dX7_postsWhen_0 : decode cX7_postsWhen 0 = .ok (.aload_n 0, 1) := by decide +kernel
theorem dX7_postsWhen_1 : decode cX7_postsWhen 1 = .ok (.getfield 86, 3) := by decide +kernel
theorem dX7_postsWhen_4 : decode cX7_postsWhen 4 = .ok (.iload_n 1, 1) := by decide +kernel
theorem dX7_postsWhen_5 : decode cX7_postsWhen 5 = .ok (.iconst 1, 1) := by decide +kernel
theorem dX7_postsWhen_6 : decode cX7_postsWhen 6 = .ok (.bastore, 1) := by decide +kernel
theorem dX7_postsWhen_7 : decode cX7_postsWhen 7 = .ok (.aload_n 0, 1) := by decide +kernel
theorem dX7_postsWhen_8 : decode cX7_postsWhen 8 = .ok (.aload_n 0, 1) := by decide +kernel
theorem dX7_postsWhen_9 : decode cX7_postsWhen 9 = .ok (.getfield 80, 3) := by decide +kernel
theorem dX7_postsWhen_12 : decode cX7_postsWhen 12 = .ok (.iload_n 1, 1) := by decide +kernel
theorem dX7_postsWhen_13 : decode cX7_postsWhen 13 = .ok (.iaload, 1) := by decide +kernel
theorem dX7_postsWhen_14 : decode cX7_postsWhen 14 = .ok (.aload_n 0, 1) := by decide +kernel
theorem dX7_postsWhen_15 : decode cX7_postsWhen 15 = .ok (.getfield 83, 3) := by decide +kernel
theorem dX7_postsWhen_18 : decode cX7_postsWhen 18 = .ok (.iload_n 1, 1) := by decide +kernel
theorem dX7_postsWhen_19 : decode cX7_postsWhen 19 = .ok (.iaload, 1) := by decide +kernel
theorem dX7_postsWhen_20 : decode cX7_postsWhen 20 = .ok (.iload_n 2, 1) := by decide +kernel
theorem dX7_postsWhen_21 : decode cX7_postsWhen 21 = .ok (.iconst 3, 1) := by decide +kernel
theorem dX7_postsWhen_22 : decode cX7_postsWhen 22 = .ok (.if_icmp .ne 8, 3) := by decide +kernel
theorem dX7_postsWhen_25 : decode cX7_postsWhen 25 = .ok (.iload_n 3, 1) := by decide +kernel
theorem dX7_postsWhen_26 : decode cX7_postsWhen 26 = .ok (.ineg, 1) := by decide +kernel
theorem dX7_postsWhen_27 : decode cX7_postsWhen 27 = .ok (.goto 4, 3) := by decide +kernel
theorem dX7_postsWhen_30 : decode cX7_postsWhen 30 = .ok (.iload_n 3, 1) := by decide +kernel
theorem dX7_postsWhen_31 : decode cX7_postsWhen 31 = .ok (.invokevirtual 154, 3) := by decide +kernel
theorem dX7_postsWhen_34 : decode cX7_postsWhen 34 = .ok (.return_, 1) := by decide +kernel
theorem dX7_postsWhens_0 : decode cX7_postsWhens 0 = .ok (.iconst 0, 1) := by decide +kernel
theorem dX7_postsWhens_1 : decode cX7_postsWhens 1 = .ok (.istore 5, 2) := by decide +kernel
theorem dX7_postsWhens_3 : decode cX7_postsWhens 3 = .ok (.iload 5, 2) := by decide +kernel
theorem dX7_postsWhens_5 : decode cX7_postsWhens 5 = .ok (.aload_n 0, 1) := by decide +kernel
theorem dX7_postsWhens_6 : decode cX7_postsWhens 6 = .ok (.getfield 158, 3) := by decide +kernel
theorem dX7_postsWhens_9 : decode cX7_postsWhens 9 = .ok (.if_icmp .ge 50, 3) := by decide +kernel
theorem dX7_postsWhens_12 : decode cX7_postsWhens 12 = .ok (.aload_n 0, 1) := by decide +kernel
theorem dX7_postsWhens_13 : decode cX7_postsWhens 13 = .ok (.getfield 77, 3) := by decide +kernel
theorem dX7_postsWhens_16 : decode cX7_postsWhens 16 = .ok (.iload 5, 2) := by decide +kernel
theorem dX7_postsWhens_18 : decode cX7_postsWhens 18 = .ok (.iaload, 1) := by decide +kernel
theorem dX7_postsWhens_19 : decode cX7_postsWhens 19 = .ok (.iload_n 1, 1) := by decide +kernel
theorem dX7_postsWhens_20 : decode cX7_postsWhens 20 = .ok (.if_icmp .ne 33, 3) := by decide +kernel
theorem dX7_postsWhens_23 : decode cX7_postsWhens 23 = .ok (.aload_n 0, 1) := by decide +kernel
theorem dX7_postsWhens_24 : decode cX7_postsWhens 24 = .ok (.getfield 80, 3) := by decide +kernel
theorem dX7_postsWhens_27 : decode cX7_postsWhens 27 = .ok (.iload 5, 2) := by decide +kernel
theorem dX7_postsWhens_29 : decode cX7_postsWhens 29 = .ok (.iaload, 1) := by decide +kernel
theorem dX7_postsWhens_30 : decode cX7_postsWhens 30 = .ok (.iload_n 2, 1) := by decide +kernel
theorem dX7_postsWhens_31 : decode cX7_postsWhens 31 = .ok (.if_icmp .ne 22, 3) := by decide +kernel
theorem dX7_postsWhens_34 : decode cX7_postsWhens 34 = .ok (.aload_n 0, 1) := by decide +kernel
theorem dX7_postsWhens_35 : decode cX7_postsWhens 35 = .ok (.getfield 86, 3) := by decide +kernel
theorem dX7_postsWhens_38 : decode cX7_postsWhens 38 = .ok (.iload 5, 2) := by decide +kernel
theorem dX7_postsWhens_40 : decode cX7_postsWhens 40 = .ok (.baload, 1) := by decide +kernel
theorem dX7_postsWhens_41 : decode cX7_postsWhens 41 = .ok (.ifCond .ne 12, 3) := by decide +kernel
theorem dX7_postsWhens_44 : decode cX7_postsWhens 44 = .ok (.aload_n 0, 1) := by decide +kernel
theorem dX7_postsWhens_45 : decode cX7_postsWhens 45 = .ok (.iload 5, 2) := by decide +kernel
theorem dX7_postsWhens_47 : decode cX7_postsWhens 47 = .ok (.iload_n 3, 1) := by decide +kernel
theorem dX7_postsWhens_48 : decode cX7_postsWhens 48 = .ok (.iload 4, 2) := by decide +kernel
theorem dX7_postsWhens_50 : decode cX7_postsWhens 50 = .ok (.invokevirtual 161, 3) := by decide +kernel
theorem dX7_postsWhens_53 : decode cX7_postsWhens 53 = .ok (.iinc 5 1, 3) := by decide +kernel
theorem dX7_postsWhens_56 : decode cX7_postsWhens 56 = .ok (.goto (-53), 3) := by decide +kernel
theorem dX7_postsWhens_59 : decode cX7_postsWhens 59 = .ok (.return_, 1) := by decide +kernel
theorem dX7_isToBeDone_0 : decode cX7_isToBeDone 0 = .ok (.aload_n 0, 1) := by decide +kernel
theorem dX7_isToBeDone_1 : decode cX7_isToBeDone 1 = .ok (.getfield 119, 3) := by decide +kernel
theorem dX7_isToBeDone_4 : decode cX7_isToBeDone 4 = .ok (.aload_n 0, 1) := by decide +kernel
theorem dX7_isToBeDone_5 : decode cX7_isToBeDone 5 = .ok (.getfield 164, 3) := by decide +kernel
theorem dX7_isToBeDone_8 : decode cX7_isToBeDone 8 = .ok (.iload_n 1, 1) := by decide +kernel
theorem dX7_isToBeDone_9 : decode cX7_isToBeDone 9 = .ok (.iastore, 1) := by decide +kernel
theorem dX7_isToBeDone_10 : decode cX7_isToBeDone 10 = .ok (.aload_n 0, 1) := by decide +kernel
theorem dX7_isToBeDone_11 : decode cX7_isToBeDone 11 = .ok (.getfield 122, 3) := by decide +kernel
theorem dX7_isToBeDone_14 : decode cX7_isToBeDone 14 = .ok (.aload_n 0, 1) := by decide +kernel
theorem dX7_isToBeDone_15 : decode cX7_isToBeDone 15 = .ok (.getfield 164, 3) := by decide +kernel
theorem dX7_isToBeDone_18 : decode cX7_isToBeDone 18 = .ok (.iload_n 2, 1) := by decide +kernel
theorem dX7_isToBeDone_19 : decode cX7_isToBeDone 19 = .ok (.iastore, 1) := by decide +kernel
theorem dX7_isToBeDone_20 : decode cX7_isToBeDone 20 = .ok (.aload_n 0, 1) := by decide +kernel
theorem dX7_isToBeDone_21 : decode cX7_isToBeDone 21 = .ok (.getfield 125, 3) := by decide +kernel
theorem dX7_isToBeDone_24 : decode cX7_isToBeDone 24 = .ok (.aload_n 0, 1) := by decide +kernel
theorem dX7_isToBeDone_25 : decode cX7_isToBeDone 25 = .ok (.getfield 164, 3) := by decide +kernel
theorem dX7_isToBeDone_28 : decode cX7_isToBeDone 28 = .ok (.iload_n 3, 1) := by decide +kernel
theorem dX7_isToBeDone_29 : decode cX7_isToBeDone 29 = .ok (.iastore, 1) := by decide +kernel
theorem dX7_isToBeDone_30 : decode cX7_isToBeDone 30 = .ok (.aload_n 0, 1) := by decide +kernel
theorem dX7_isToBeDone_31 : decode cX7_isToBeDone 31 = .ok (.dup, 1) := by decide +kernel
theorem dX7_isToBeDone_32 : decode cX7_isToBeDone 32 = .ok (.getfield 164, 3) := by decide +kernel
theorem dX7_isToBeDone_35 : decode cX7_isToBeDone 35 = .ok (.iconst 1, 1) := by decide +kernel
theorem dX7_isToBeDone_36 : decode cX7_isToBeDone 36 = .ok (.iadd, 1) := by decide +kernel
theorem dX7_isToBeDone_37 : decode cX7_isToBeDone 37 = .ok (.putfield 164, 3) := by decide +kernel
theorem dX7_isToBeDone_40 : decode cX7_isToBeDone 40 = .ok (.return_, 1) := by decide +kernel
theorem dX7_arrives_0 : decode cX7_arrives 0 = .ok (.aload_n 0, 1) := by decide +kernel
theorem dX7_arrives_1 : decode cX7_arrives 1 = .ok (.getfield 47, 3) := by decide +kernel
theorem dX7_arrives_4 : decode cX7_arrives 4 = .ok (.iload_n 1, 1) := by decide +kernel
theorem dX7_arrives_5 : decode cX7_arrives 5 = .ok (.iload_n 2, 1) := by decide +kernel
theorem dX7_arrives_6 : decode cX7_arrives 6 = .ok (.iastore, 1) := by decide +kernel
theorem dX7_arrives_7 : decode cX7_arrives 7 = .ok (.aload_n 0, 1) := by decide +kernel
theorem dX7_arrives_8 : decode cX7_arrives 8 = .ok (.getfield 50, 3) := by decide +kernel
theorem dX7_arrives_11 : decode cX7_arrives 11 = .ok (.iload_n 1, 1) := by decide +kernel
theorem dX7_arrives_12 : decode cX7_arrives 12 = .ok (.iload_n 3, 1) := by decide +kernel
theorem dX7_arrives_13 : decode cX7_arrives 13 = .ok (.iastore, 1) := by decide +kernel
theorem dX7_arrives_14 : decode cX7_arrives 14 = .ok (.aload_n 0, 1) := by decide +kernel
theorem dX7_arrives_15 : decode cX7_arrives 15 = .ok (.iload_n 1, 1) := by decide +kernel
theorem dX7_arrives_16 : decode cX7_arrives 16 = .ok (.aload_n 0, 1) := by decide +kernel
theorem dX7_arrives_17 : decode cX7_arrives 17 = .ok (.getfield 35, 3) := by decide +kernel
theorem dX7_arrives_20 : decode cX7_arrives 20 = .ok (.iload_n 1, 1) := by decide +kernel
theorem dX7_arrives_21 : decode cX7_arrives 21 = .ok (.iaload, 1) := by decide +kernel
theorem dX7_arrives_22 : decode cX7_arrives 22 = .ok (.iload_n 2, 1) := by decide +kernel
theorem dX7_arrives_23 : decode cX7_arrives 23 = .ok (.iload_n 3, 1) := by decide +kernel
theorem dX7_arrives_24 : decode cX7_arrives 24 = .ok (.invokevirtual 167, 3) := by decide +kernel
theorem dX7_arrives_27 : decode cX7_arrives 27 = .ok (.return_, 1) := by decide +kernel
theorem dX7_comesBack_0 : decode cX7_comesBack 0 = .ok (.iload 4, 2) := by decide +kernel
theorem dX7_comesBack_2 : decode cX7_comesBack 2 = .ok (.ifCond .eq 13, 3) := by decide +kernel
theorem dX7_comesBack_5 : decode cX7_comesBack 5 = .ok (.aload_n 0, 1) := by decide +kernel
theorem dX7_comesBack_6 : decode cX7_comesBack 6 = .ok (.iload_n 1, 1) := by decide +kernel
theorem dX7_comesBack_7 : decode cX7_comesBack 7 = .ok (.iload_n 2, 1) := by decide +kernel
theorem dX7_comesBack_8 : decode cX7_comesBack 8 = .ok (.iload_n 3, 1) := by decide +kernel
theorem dX7_comesBack_9 : decode cX7_comesBack 9 = .ok (.invokevirtual 171, 3) := by decide +kernel
theorem dX7_comesBack_12 : decode cX7_comesBack 12 = .ok (.goto 10, 3) := by decide +kernel
theorem dX7_comesBack_15 : decode cX7_comesBack 15 = .ok (.aload_n 0, 1) := by decide +kernel
theorem dX7_comesBack_16 : decode cX7_comesBack 16 = .ok (.iload_n 1, 1) := by decide +kernel
theorem dX7_comesBack_17 : decode cX7_comesBack 17 = .ok (.iload_n 2, 1) := by decide +kernel
theorem dX7_comesBack_18 : decode cX7_comesBack 18 = .ok (.iload_n 3, 1) := by decide +kernel
theorem dX7_comesBack_19 : decode cX7_comesBack 19 = .ok (.invokevirtual 174, 3) := by decide +kernel
theorem dX7_comesBack_22 : decode cX7_comesBack 22 = .ok (.return_, 1) := by decide +kernel
theorem dX7_sendsAnswer_0 : decode cX7_sendsAnswer 0 = .ok (.iload 5, 2) := by decide +kernel
theorem dX7_sendsAnswer_2 : decode cX7_sendsAnswer 2 = .ok (.ifCond .eq 12, 3) := by decide +kernel
theorem dX7_sendsAnswer_5 : decode cX7_sendsAnswer 5 = .ok (.aload_n 0, 1) := by decide +kernel
theorem dX7_sendsAnswer_6 : decode cX7_sendsAnswer 6 = .ok (.getfield 35, 3) := by decide +kernel
theorem dX7_sendsAnswer_9 : decode cX7_sendsAnswer 9 = .ok (.iload_n 2, 1) := by decide +kernel
theorem dX7_sendsAnswer_10 : decode cX7_sendsAnswer 10 = .ok (.iaload, 1) := by decide +kernel
theorem dX7_sendsAnswer_11 : decode cX7_sendsAnswer 11 = .ok (.goto 9, 3) := by decide +kernel
theorem dX7_sendsAnswer_14 : decode cX7_sendsAnswer 14 = .ok (.aload_n 0, 1) := by decide +kernel
theorem dX7_sendsAnswer_15 : decode cX7_sendsAnswer 15 = .ok (.getfield 38, 3) := by decide +kernel
theorem dX7_sendsAnswer_18 : decode cX7_sendsAnswer 18 = .ok (.iload_n 2, 1) := by decide +kernel
theorem dX7_sendsAnswer_19 : decode cX7_sendsAnswer 19 = .ok (.iaload, 1) := by decide +kernel
theorem dX7_sendsAnswer_20 : decode cX7_sendsAnswer 20 = .ok (.istore 6, 2) := by decide +kernel
theorem dX7_sendsAnswer_22 : decode cX7_sendsAnswer 22 = .ok (.aload_n 0, 1) := by decide +kernel
theorem dX7_sendsAnswer_23 : decode cX7_sendsAnswer 23 = .ok (.getfield 53, 3) := by decide +kernel
theorem dX7_sendsAnswer_26 : decode cX7_sendsAnswer 26 = .ok (.iload_n 2, 1) := by decide +kernel
theorem dX7_sendsAnswer_27 : decode cX7_sendsAnswer 27 = .ok (.dup2, 1) := by decide +kernel
theorem dX7_sendsAnswer_28 : decode cX7_sendsAnswer 28 = .ok (.iaload, 1) := by decide +kernel
theorem dX7_sendsAnswer_29 : decode cX7_sendsAnswer 29 = .ok (.iconst 1, 1) := by decide +kernel
theorem dX7_sendsAnswer_30 : decode cX7_sendsAnswer 30 = .ok (.iadd, 1) := by decide +kernel
theorem dX7_sendsAnswer_31 : decode cX7_sendsAnswer 31 = .ok (.iastore, 1) := by decide +kernel
theorem dX7_sendsAnswer_32 : decode cX7_sendsAnswer 32 = .ok (.aload_n 0, 1) := by decide +kernel
theorem dX7_sendsAnswer_33 : decode cX7_sendsAnswer 33 = .ok (.getfield 116, 3) := by decide +kernel
theorem dX7_sendsAnswer_36 : decode cX7_sendsAnswer 36 = .ok (.iconst 4, 1) := by decide +kernel
theorem dX7_sendsAnswer_37 : decode cX7_sendsAnswer 37 = .ok (.iload_n 1, 1) := by decide +kernel
theorem dX7_sendsAnswer_38 : decode cX7_sendsAnswer 38 = .ok (.imul, 1) := by decide +kernel
theorem dX7_sendsAnswer_39 : decode cX7_sendsAnswer 39 = .ok (.iload 6, 2) := by decide +kernel
theorem dX7_sendsAnswer_41 : decode cX7_sendsAnswer 41 = .ok (.iadd, 1) := by decide +kernel
theorem dX7_sendsAnswer_42 : decode cX7_sendsAnswer 42 = .ok (.baload, 1) := by decide +kernel
theorem dX7_sendsAnswer_43 : decode cX7_sendsAnswer 43 = .ok (.ifCond .eq 15, 3) := by decide +kernel
theorem dX7_sendsAnswer_46 : decode cX7_sendsAnswer 46 = .ok (.aload_n 0, 1) := by decide +kernel
theorem dX7_sendsAnswer_47 : decode cX7_sendsAnswer 47 = .ok (.iload_n 2, 1) := by decide +kernel
theorem dX7_sendsAnswer_48 : decode cX7_sendsAnswer 48 = .ok (.iconst 3, 1) := by decide +kernel
theorem dX7_sendsAnswer_49 : decode cX7_sendsAnswer 49 = .ok (.iconst 1, 1) := by decide +kernel
theorem dX7_sendsAnswer_50 : decode cX7_sendsAnswer 50 = .ok (.iload 5, 2) := by decide +kernel
theorem dX7_sendsAnswer_52 : decode cX7_sendsAnswer 52 = .ok (.invokevirtual 177, 3) := by decide +kernel
theorem dX7_sendsAnswer_55 : decode cX7_sendsAnswer 55 = .ok (.goto 21, 3) := by decide +kernel
theorem dX7_sendsAnswer_58 : decode cX7_sendsAnswer 58 = .ok (.aload_n 0, 1) := by decide +kernel
theorem dX7_sendsAnswer_59 : decode cX7_sendsAnswer 59 = .ok (.iconst 1, 1) := by decide +kernel
theorem dX7_sendsAnswer_60 : decode cX7_sendsAnswer 60 = .ok (.iload_n 1, 1) := by decide +kernel
theorem dX7_sendsAnswer_61 : decode cX7_sendsAnswer 61 = .ok (.iload 6, 2) := by decide +kernel
theorem dX7_sendsAnswer_63 : decode cX7_sendsAnswer 63 = .ok (.iload_n 2, 1) := by decide +kernel
theorem dX7_sendsAnswer_64 : decode cX7_sendsAnswer 64 = .ok (.bipush (-9), 2) := by decide +kernel
theorem dX7_sendsAnswer_66 : decode cX7_sendsAnswer 66 = .ok (.bipush (-9), 2) := by decide +kernel
theorem dX7_sendsAnswer_68 : decode cX7_sendsAnswer 68 = .ok (.iload_n 3, 1) := by decide +kernel
theorem dX7_sendsAnswer_69 : decode cX7_sendsAnswer 69 = .ok (.iload 4, 2) := by decide +kernel
theorem dX7_sendsAnswer_71 : decode cX7_sendsAnswer 71 = .ok (.iload 5, 2) := by decide +kernel
theorem dX7_sendsAnswer_73 : decode cX7_sendsAnswer 73 = .ok (.invokevirtual 150, 3) := by decide +kernel
theorem dX7_sendsAnswer_76 : decode cX7_sendsAnswer 76 = .ok (.return_, 1) := by decide +kernel
theorem dX7_settles_0 : decode cX7_settles 0 = .ok (.aload_n 0, 1) := by decide +kernel
theorem dX7_settles_1 : decode cX7_settles 1 = .ok (.getfield 56, 3) := by decide +kernel
theorem dX7_settles_4 : decode cX7_settles 4 = .ok (.iload_n 1, 1) := by decide +kernel
theorem dX7_settles_5 : decode cX7_settles 5 = .ok (.iconst 0, 1) := by decide +kernel
theorem dX7_settles_6 : decode cX7_settles 6 = .ok (.iastore, 1) := by decide +kernel
theorem dX7_settles_7 : decode cX7_settles 7 = .ok (.iload_n 2, 1) := by decide +kernel
theorem dX7_settles_8 : decode cX7_settles 8 = .ok (.aload_n 0, 1) := by decide +kernel
theorem dX7_settles_9 : decode cX7_settles 9 = .ok (.getfield 38, 3) := by decide +kernel
theorem dX7_settles_12 : decode cX7_settles 12 = .ok (.iload_n 1, 1) := by decide +kernel
theorem dX7_settles_13 : decode cX7_settles 13 = .ok (.iaload, 1) := by decide +kernel
theorem dX7_settles_14 : decode cX7_settles 14 = .ok (.if_icmp .ne 14, 3) := by decide +kernel
theorem dX7_settles_17 : decode cX7_settles 17 = .ok (.aload_n 0, 1) := by decide +kernel
theorem dX7_settles_18 : decode cX7_settles 18 = .ok (.iload_n 1, 1) := by decide +kernel
theorem dX7_settles_19 : decode cX7_settles 19 = .ok (.iload_n 3, 1) := by decide +kernel
theorem dX7_settles_20 : decode cX7_settles 20 = .ok (.iload 4, 2) := by decide +kernel
theorem dX7_settles_22 : decode cX7_settles 22 = .ok (.invokevirtual 174, 3) := by decide +kernel
theorem dX7_settles_25 : decode cX7_settles 25 = .ok (.goto 13, 3) := by decide +kernel
theorem dX7_settles_28 : decode cX7_settles 28 = .ok (.aload_n 0, 1) := by decide +kernel
theorem dX7_settles_29 : decode cX7_settles 29 = .ok (.iload_n 2, 1) := by decide +kernel
theorem dX7_settles_30 : decode cX7_settles 30 = .ok (.iload_n 1, 1) := by decide +kernel
theorem dX7_settles_31 : decode cX7_settles 31 = .ok (.iload_n 3, 1) := by decide +kernel
theorem dX7_settles_32 : decode cX7_settles 32 = .ok (.iload 4, 2) := by decide +kernel
theorem dX7_settles_34 : decode cX7_settles 34 = .ok (.iconst 0, 1) := by decide +kernel
theorem dX7_settles_35 : decode cX7_settles 35 = .ok (.invokevirtual 181, 3) := by decide +kernel
theorem dX7_settles_38 : decode cX7_settles 38 = .ok (.return_, 1) := by decide +kernel
theorem dX7_losesMessage_0 : decode cX7_losesMessage 0 = .ok (.aload_n 0, 1) := by decide +kernel
theorem dX7_losesMessage_1 : decode cX7_losesMessage 1 = .ok (.getfield 68, 3) := by decide +kernel
theorem dX7_losesMessage_4 : decode cX7_losesMessage 4 = .ok (.iload_n 1, 1) := by decide +kernel
theorem dX7_losesMessage_5 : decode cX7_losesMessage 5 = .ok (.iaload, 1) := by decide +kernel
theorem dX7_losesMessage_6 : decode cX7_losesMessage 6 = .ok (.ifCond .lt 30, 3) := by decide +kernel
theorem dX7_losesMessage_9 : decode cX7_losesMessage 9 = .ok (.aload_n 0, 1) := by decide +kernel
theorem dX7_losesMessage_10 : decode cX7_losesMessage 10 = .ok (.getfield 16, 3) := by decide +kernel
theorem dX7_losesMessage_13 : decode cX7_losesMessage 13 = .ok (.aload_n 0, 1) := by decide +kernel
theorem dX7_losesMessage_14 : decode cX7_losesMessage 14 = .ok (.getfield 68, 3) := by decide +kernel
theorem dX7_losesMessage_17 : decode cX7_losesMessage 17 = .ok (.iload_n 1, 1) := by decide +kernel
theorem dX7_losesMessage_18 : decode cX7_losesMessage 18 = .ok (.iaload, 1) := by decide +kernel
theorem dX7_losesMessage_19 : decode cX7_losesMessage 19 = .ok (.dup2, 1) := by decide +kernel
theorem dX7_losesMessage_20 : decode cX7_losesMessage 20 = .ok (.iaload, 1) := by decide +kernel
theorem dX7_losesMessage_21 : decode cX7_losesMessage 21 = .ok (.aload_n 0, 1) := by decide +kernel
theorem dX7_losesMessage_22 : decode cX7_losesMessage 22 = .ok (.getfield 62, 3) := by decide +kernel
theorem dX7_losesMessage_25 : decode cX7_losesMessage 25 = .ok (.iload_n 1, 1) := by decide +kernel
theorem dX7_losesMessage_26 : decode cX7_losesMessage 26 = .ok (.iaload, 1) := by decide +kernel
theorem dX7_losesMessage_27 : decode cX7_losesMessage 27 = .ok (.iadd, 1) := by decide +kernel
theorem dX7_losesMessage_28 : decode cX7_losesMessage 28 = .ok (.iastore, 1) := by decide +kernel
theorem dX7_losesMessage_29 : decode cX7_losesMessage 29 = .ok (.aload_n 0, 1) := by decide +kernel
theorem dX7_losesMessage_30 : decode cX7_losesMessage 30 = .ok (.getfield 68, 3) := by decide +kernel
theorem dX7_losesMessage_33 : decode cX7_losesMessage 33 = .ok (.iload_n 1, 1) := by decide +kernel
theorem dX7_losesMessage_34 : decode cX7_losesMessage 34 = .ok (.iconst (-1), 1) := by decide +kernel
theorem dX7_losesMessage_35 : decode cX7_losesMessage 35 = .ok (.iastore, 1) := by decide +kernel
theorem dX7_losesMessage_36 : decode cX7_losesMessage 36 = .ok (.aload_n 0, 1) := by decide +kernel
theorem dX7_losesMessage_37 : decode cX7_losesMessage 37 = .ok (.iload_n 1, 1) := by decide +kernel
theorem dX7_losesMessage_38 : decode cX7_losesMessage 38 = .ok (.iload_n 2, 1) := by decide +kernel
theorem dX7_losesMessage_39 : decode cX7_losesMessage 39 = .ok (.iconst 3, 1) := by decide +kernel
theorem dX7_losesMessage_40 : decode cX7_losesMessage 40 = .ok (.iconst 1, 1) := by decide +kernel
theorem dX7_losesMessage_41 : decode cX7_losesMessage 41 = .ok (.invokevirtual 185, 3) := by decide +kernel
theorem dX7_losesMessage_44 : decode cX7_losesMessage 44 = .ok (.return_, 1) := by decide +kernel
theorem dX7_sends_0 : decode cX7_sends 0 = .ok (.aload_n 0, 1) := by decide +kernel
theorem dX7_sends_1 : decode cX7_sends 1 = .ok (.getfield 53, 3) := by decide +kernel
theorem dX7_sends_4 : decode cX7_sends 4 = .ok (.iload_n 1, 1) := by decide +kernel
theorem dX7_sends_5 : decode cX7_sends 5 = .ok (.dup2, 1) := by decide +kernel
theorem dX7_sends_6 : decode cX7_sends 6 = .ok (.iaload, 1) := by decide +kernel
theorem dX7_sends_7 : decode cX7_sends 7 = .ok (.iconst 1, 1) := by decide +kernel
theorem dX7_sends_8 : decode cX7_sends 8 = .ok (.iadd, 1) := by decide +kernel
theorem dX7_sends_9 : decode cX7_sends 9 = .ok (.iastore, 1) := by decide +kernel
theorem dX7_sends_10 : decode cX7_sends 10 = .ok (.aload_n 0, 1) := by decide +kernel
theorem dX7_sends_11 : decode cX7_sends 11 = .ok (.getfield 116, 3) := by decide +kernel
theorem dX7_sends_14 : decode cX7_sends 14 = .ok (.iconst 4, 1) := by decide +kernel
theorem dX7_sends_15 : decode cX7_sends 15 = .ok (.iload_n 2, 1) := by decide +kernel
theorem dX7_sends_16 : decode cX7_sends 16 = .ok (.imul, 1) := by decide +kernel
theorem dX7_sends_17 : decode cX7_sends 17 = .ok (.iload_n 3, 1) := by decide +kernel
theorem dX7_sends_18 : decode cX7_sends 18 = .ok (.iadd, 1) := by decide +kernel
theorem dX7_sends_19 : decode cX7_sends 19 = .ok (.baload, 1) := by decide +kernel
theorem dX7_sends_20 : decode cX7_sends 20 = .ok (.ifCond .eq 12, 3) := by decide +kernel
theorem dX7_sends_23 : decode cX7_sends 23 = .ok (.aload_n 0, 1) := by decide +kernel
theorem dX7_sends_24 : decode cX7_sends 24 = .ok (.iload_n 1, 1) := by decide +kernel
theorem dX7_sends_25 : decode cX7_sends 25 = .ok (.iload_n 2, 1) := by decide +kernel
theorem dX7_sends_26 : decode cX7_sends 26 = .ok (.invokevirtual 188, 3) := by decide +kernel
theorem dX7_sends_29 : decode cX7_sends 29 = .ok (.goto 25, 3) := by decide +kernel
theorem dX7_sends_32 : decode cX7_sends 32 = .ok (.aload_n 0, 1) := by decide +kernel
theorem dX7_sends_33 : decode cX7_sends 33 = .ok (.getfield 56, 3) := by decide +kernel
theorem dX7_sends_36 : decode cX7_sends 36 = .ok (.iload_n 1, 1) := by decide +kernel
theorem dX7_sends_37 : decode cX7_sends 37 = .ok (.iconst 3, 1) := by decide +kernel
theorem dX7_sends_38 : decode cX7_sends 38 = .ok (.iastore, 1) := by decide +kernel
theorem dX7_sends_39 : decode cX7_sends 39 = .ok (.aload_n 0, 1) := by decide +kernel
theorem dX7_sends_40 : decode cX7_sends 40 = .ok (.iconst 0, 1) := by decide +kernel
theorem dX7_sends_41 : decode cX7_sends 41 = .ok (.iload_n 2, 1) := by decide +kernel
theorem dX7_sends_42 : decode cX7_sends 42 = .ok (.iload_n 3, 1) := by decide +kernel
theorem dX7_sends_43 : decode cX7_sends 43 = .ok (.iload_n 1, 1) := by decide +kernel
theorem dX7_sends_44 : decode cX7_sends 44 = .ok (.iload 4, 2) := by decide +kernel
theorem dX7_sends_46 : decode cX7_sends 46 = .ok (.iload 5, 2) := by decide +kernel
theorem dX7_sends_48 : decode cX7_sends 48 = .ok (.iconst 0, 1) := by decide +kernel
theorem dX7_sends_49 : decode cX7_sends 49 = .ok (.iconst 0, 1) := by decide +kernel
theorem dX7_sends_50 : decode cX7_sends 50 = .ok (.iconst 0, 1) := by decide +kernel
theorem dX7_sends_51 : decode cX7_sends 51 = .ok (.invokevirtual 150, 3) := by decide +kernel
theorem dX7_sends_54 : decode cX7_sends 54 = .ok (.return_, 1) := by decide +kernel
theorem dX7_sendsToThing_0 : decode cX7_sendsToThing 0 = .ok (.aload_n 0, 1) := by decide +kernel
theorem dX7_sendsToThing_1 : decode cX7_sendsToThing 1 = .ok (.iload_n 1, 1) := by decide +kernel
theorem dX7_sendsToThing_2 : decode cX7_sendsToThing 2 = .ok (.iload_n 2, 1) := by decide +kernel
theorem dX7_sendsToThing_3 : decode cX7_sendsToThing 3 = .ok (.aload_n 0, 1) := by decide +kernel
theorem dX7_sendsToThing_4 : decode cX7_sendsToThing 4 = .ok (.getfield 7, 3) := by decide +kernel
theorem dX7_sendsToThing_7 : decode cX7_sendsToThing 7 = .ok (.iload_n 3, 1) := by decide +kernel
theorem dX7_sendsToThing_8 : decode cX7_sendsToThing 8 = .ok (.iaload, 1) := by decide +kernel
theorem dX7_sendsToThing_9 : decode cX7_sendsToThing 9 = .ok (.iload_n 3, 1) := by decide +kernel
theorem dX7_sendsToThing_10 : decode cX7_sendsToThing 10 = .ok (.bipush (-9), 2) := by decide +kernel
theorem dX7_sendsToThing_12 : decode cX7_sendsToThing 12 = .ok (.invokevirtual 192, 3) := by decide +kernel
theorem dX7_sendsToThing_15 : decode cX7_sendsToThing 15 = .ok (.return_, 1) := by decide +kernel
theorem dX7_goesOn_0 : decode cX7_goesOn 0 = .ok (.iload_n 3, 1) := by decide +kernel
theorem dX7_goesOn_1 : decode cX7_goesOn 1 = .ok (.iconst 2, 1) := by decide +kernel
theorem dX7_goesOn_2 : decode cX7_goesOn 2 = .ok (.if_icmp .ne 14, 3) := by decide +kernel
theorem dX7_goesOn_5 : decode cX7_goesOn 5 = .ok (.aload_n 0, 1) := by decide +kernel
theorem dX7_goesOn_6 : decode cX7_goesOn 6 = .ok (.iload_n 1, 1) := by decide +kernel
theorem dX7_goesOn_7 : decode cX7_goesOn 7 = .ok (.iload_n 2, 1) := by decide +kernel
theorem dX7_goesOn_8 : decode cX7_goesOn 8 = .ok (.iload 4, 2) := by decide +kernel
theorem dX7_goesOn_10 : decode cX7_goesOn 10 = .ok (.invokevirtual 196, 3) := by decide +kernel
theorem dX7_goesOn_13 : decode cX7_goesOn 13 = .ok (.goto 21, 3) := by decide +kernel
theorem dX7_goesOn_16 : decode cX7_goesOn 16 = .ok (.aload_n 0, 1) := by decide +kernel
theorem dX7_goesOn_17 : decode cX7_goesOn 17 = .ok (.iload_n 1, 1) := by decide +kernel
theorem dX7_goesOn_18 : decode cX7_goesOn 18 = .ok (.iload_n 2, 1) := by decide +kernel
theorem dX7_goesOn_19 : decode cX7_goesOn 19 = .ok (.iconst 3, 1) := by decide +kernel
theorem dX7_goesOn_20 : decode cX7_goesOn 20 = .ok (.iload_n 3, 1) := by decide +kernel
theorem dX7_goesOn_21 : decode cX7_goesOn 21 = .ok (.iconst 1, 1) := by decide +kernel
theorem dX7_goesOn_22 : decode cX7_goesOn 22 = .ok (.if_icmp .ne 7, 3) := by decide +kernel
theorem dX7_goesOn_25 : decode cX7_goesOn 25 = .ok (.iconst 3, 1) := by decide +kernel
theorem dX7_goesOn_26 : decode cX7_goesOn 26 = .ok (.goto 5, 3) := by decide +kernel
theorem dX7_goesOn_29 : decode cX7_goesOn 29 = .ok (.iload 4, 2) := by decide +kernel
theorem dX7_goesOn_31 : decode cX7_goesOn 31 = .ok (.invokevirtual 185, 3) := by decide +kernel
theorem dX7_goesOn_34 : decode cX7_goesOn 34 = .ok (.return_, 1) := by decide +kernel
theorem dX7_firstKept_0 : decode cX7_firstKept 0 = .ok (.iconst (-1), 1) := by decide +kernel
theorem dX7_firstKept_1 : decode cX7_firstKept 1 = .ok (.istore_n 3, 1) := by decide +kernel
theorem dX7_firstKept_2 : decode cX7_firstKept 2 = .ok (.iconst 0, 1) := by decide +kernel
theorem dX7_firstKept_3 : decode cX7_firstKept 3 = .ok (.istore 4, 2) := by decide +kernel
theorem dX7_firstKept_5 : decode cX7_firstKept 5 = .ok (.iload 4, 2) := by decide +kernel
theorem dX7_firstKept_7 : decode cX7_firstKept 7 = .ok (.aload_n 0, 1) := by decide +kernel
theorem dX7_firstKept_8 : decode cX7_firstKept 8 = .ok (.getfield 136, 3) := by decide +kernel
theorem dX7_firstKept_11 : decode cX7_firstKept 11 = .ok (.if_icmp .ge 70, 3) := by decide +kernel
theorem dX7_firstKept_14 : decode cX7_firstKept 14 = .ok (.aload_n 0, 1) := by decide +kernel
theorem dX7_firstKept_15 : decode cX7_firstKept 15 = .ok (.getfield 56, 3) := by decide +kernel
theorem dX7_firstKept_18 : decode cX7_firstKept 18 = .ok (.iload 4, 2) := by decide +kernel
theorem dX7_firstKept_20 : decode cX7_firstKept 20 = .ok (.iaload, 1) := by decide +kernel
theorem dX7_firstKept_21 : decode cX7_firstKept 21 = .ok (.iload_n 1, 1) := by decide +kernel
theorem dX7_firstKept_22 : decode cX7_firstKept 22 = .ok (.if_icmp .ne 18, 3) := by decide +kernel
theorem dX7_firstKept_25 : decode cX7_firstKept 25 = .ok (.aload_n 0, 1) := by decide +kernel
theorem dX7_firstKept_26 : decode cX7_firstKept 26 = .ok (.getfield 71, 3) := by decide +kernel
theorem dX7_firstKept_29 : decode cX7_firstKept 29 = .ok (.iload 4, 2) := by decide +kernel
theorem dX7_firstKept_31 : decode cX7_firstKept 31 = .ok (.iaload, 1) := by decide +kernel
theorem dX7_firstKept_32 : decode cX7_firstKept 32 = .ok (.iload_n 2, 1) := by decide +kernel
theorem dX7_firstKept_33 : decode cX7_firstKept 33 = .ok (.if_icmp .ne 7, 3) := by decide +kernel
theorem dX7_firstKept_36 : decode cX7_firstKept 36 = .ok (.iconst 1, 1) := by decide +kernel
theorem dX7_firstKept_37 : decode cX7_firstKept 37 = .ok (.goto 4, 3) := by decide +kernel
theorem dX7_firstKept_40 : decode cX7_firstKept 40 = .ok (.iconst 0, 1) := by decide +kernel
theorem dX7_firstKept_41 : decode cX7_firstKept 41 = .ok (.istore 5, 2) := by decide +kernel
theorem dX7_firstKept_43 : decode cX7_firstKept 43 = .ok (.iload 5, 2) := by decide +kernel
theorem dX7_firstKept_45 : decode cX7_firstKept 45 = .ok (.ifCond .eq 28, 3) := by decide +kernel
theorem dX7_firstKept_48 : decode cX7_firstKept 48 = .ok (.iload_n 3, 1) := by decide +kernel
theorem dX7_firstKept_49 : decode cX7_firstKept 49 = .ok (.ifCond .lt 19, 3) := by decide +kernel
theorem dX7_firstKept_52 : decode cX7_firstKept 52 = .ok (.aload_n 0, 1) := by decide +kernel
theorem dX7_firstKept_53 : decode cX7_firstKept 53 = .ok (.getfield 74, 3) := by decide +kernel
theorem dX7_firstKept_56 : decode cX7_firstKept 56 = .ok (.iload 4, 2) := by decide +kernel
theorem dX7_firstKept_58 : decode cX7_firstKept 58 = .ok (.iaload, 1) := by decide +kernel
theorem dX7_firstKept_59 : decode cX7_firstKept 59 = .ok (.aload_n 0, 1) := by decide +kernel
theorem dX7_firstKept_60 : decode cX7_firstKept 60 = .ok (.getfield 74, 3) := by decide +kernel
theorem dX7_firstKept_63 : decode cX7_firstKept 63 = .ok (.iload_n 3, 1) := by decide +kernel
theorem dX7_firstKept_64 : decode cX7_firstKept 64 = .ok (.iaload, 1) := by decide +kernel
theorem dX7_firstKept_65 : decode cX7_firstKept 65 = .ok (.if_icmp .ge 8, 3) := by decide +kernel
theorem dX7_firstKept_68 : decode cX7_firstKept 68 = .ok (.iload 4, 2) := by decide +kernel
theorem dX7_firstKept_70 : decode cX7_firstKept 70 = .ok (.goto 4, 3) := by decide +kernel
theorem dX7_firstKept_73 : decode cX7_firstKept 73 = .ok (.iload_n 3, 1) := by decide +kernel
theorem dX7_firstKept_74 : decode cX7_firstKept 74 = .ok (.istore_n 3, 1) := by decide +kernel
theorem dX7_firstKept_75 : decode cX7_firstKept 75 = .ok (.iinc 4 1, 3) := by decide +kernel
theorem dX7_firstKept_78 : decode cX7_firstKept 78 = .ok (.goto (-73), 3) := by decide +kernel
theorem dX7_firstKept_81 : decode cX7_firstKept 81 = .ok (.iload_n 3, 1) := by decide +kernel
theorem dX7_firstKept_82 : decode cX7_firstKept 82 = .ok (.ireturn, 1) := by decide +kernel
theorem dX7_doesOne_0 : decode cX7_doesOne 0 = .ok (.aload_n 0, 1) := by decide +kernel
theorem dX7_doesOne_1 : decode cX7_doesOne 1 = .ok (.getfield 41, 3) := by decide +kernel
theorem dX7_doesOne_4 : decode cX7_doesOne 4 = .ok (.iload_n 1, 1) := by decide +kernel
theorem dX7_doesOne_5 : decode cX7_doesOne 5 = .ok (.iload_n 2, 1) := by decide +kernel
theorem dX7_doesOne_6 : decode cX7_doesOne 6 = .ok (.iastore, 1) := by decide +kernel
theorem dX7_doesOne_7 : decode cX7_doesOne 7 = .ok (.aload_n 0, 1) := by decide +kernel
theorem dX7_doesOne_8 : decode cX7_doesOne 8 = .ok (.getfield 44, 3) := by decide +kernel
theorem dX7_doesOne_11 : decode cX7_doesOne 11 = .ok (.iload_n 1, 1) := by decide +kernel
theorem dX7_doesOne_12 : decode cX7_doesOne 12 = .ok (.iload_n 3, 1) := by decide +kernel
theorem dX7_doesOne_13 : decode cX7_doesOne 13 = .ok (.iastore, 1) := by decide +kernel
theorem dX7_doesOne_14 : decode cX7_doesOne 14 = .ok (.aload_n 0, 1) := by decide +kernel
theorem dX7_doesOne_15 : decode cX7_doesOne 15 = .ok (.iconst 2, 1) := by decide +kernel
theorem dX7_doesOne_16 : decode cX7_doesOne 16 = .ok (.iload_n 1, 1) := by decide +kernel
theorem dX7_doesOne_17 : decode cX7_doesOne 17 = .ok (.invokevirtual 199, 3) := by decide +kernel
theorem dX7_doesOne_20 : decode cX7_doesOne 20 = .ok (.istore 4, 2) := by decide +kernel
theorem dX7_doesOne_22 : decode cX7_doesOne 22 = .ok (.iload 4, 2) := by decide +kernel
theorem dX7_doesOne_24 : decode cX7_doesOne 24 = .ok (.ifCond .lt 28, 3) := by decide +kernel
theorem dX7_doesOne_27 : decode cX7_doesOne 27 = .ok (.aload_n 0, 1) := by decide +kernel
theorem dX7_doesOne_28 : decode cX7_doesOne 28 = .ok (.iload 4, 2) := by decide +kernel
theorem dX7_doesOne_30 : decode cX7_doesOne 30 = .ok (.aload_n 0, 1) := by decide +kernel
theorem dX7_doesOne_31 : decode cX7_doesOne 31 = .ok (.getfield 38, 3) := by decide +kernel
theorem dX7_doesOne_34 : decode cX7_doesOne 34 = .ok (.iload_n 1, 1) := by decide +kernel
theorem dX7_doesOne_35 : decode cX7_doesOne 35 = .ok (.iaload, 1) := by decide +kernel
theorem dX7_doesOne_36 : decode cX7_doesOne 36 = .ok (.iload_n 2, 1) := by decide +kernel
theorem dX7_doesOne_37 : decode cX7_doesOne 37 = .ok (.iload_n 3, 1) := by decide +kernel
theorem dX7_doesOne_38 : decode cX7_doesOne 38 = .ok (.invokevirtual 203, 3) := by decide +kernel
theorem dX7_doesOne_41 : decode cX7_doesOne 41 = .ok (.aload_n 0, 1) := by decide +kernel
theorem dX7_doesOne_42 : decode cX7_doesOne 42 = .ok (.iconst 2, 1) := by decide +kernel
theorem dX7_doesOne_43 : decode cX7_doesOne 43 = .ok (.iload_n 1, 1) := by decide +kernel
theorem dX7_doesOne_44 : decode cX7_doesOne 44 = .ok (.invokevirtual 199, 3) := by decide +kernel
theorem dX7_doesOne_47 : decode cX7_doesOne 47 = .ok (.istore 4, 2) := by decide +kernel
theorem dX7_doesOne_49 : decode cX7_doesOne 49 = .ok (.goto (-27), 3) := by decide +kernel
theorem dX7_doesOne_52 : decode cX7_doesOne 52 = .ok (.aload_n 0, 1) := by decide +kernel
theorem dX7_doesOne_53 : decode cX7_doesOne 53 = .ok (.getfield 35, 3) := by decide +kernel
theorem dX7_doesOne_56 : decode cX7_doesOne 56 = .ok (.iload_n 1, 1) := by decide +kernel
theorem dX7_doesOne_57 : decode cX7_doesOne 57 = .ok (.iaload, 1) := by decide +kernel
theorem dX7_doesOne_58 : decode cX7_doesOne 58 = .ok (.aload_n 0, 1) := by decide +kernel
theorem dX7_doesOne_59 : decode cX7_doesOne 59 = .ok (.getfield 38, 3) := by decide +kernel
theorem dX7_doesOne_62 : decode cX7_doesOne 62 = .ok (.iload_n 1, 1) := by decide +kernel
theorem dX7_doesOne_63 : decode cX7_doesOne 63 = .ok (.iaload, 1) := by decide +kernel
theorem dX7_doesOne_64 : decode cX7_doesOne 64 = .ok (.if_icmp .eq 17, 3) := by decide +kernel
theorem dX7_doesOne_67 : decode cX7_doesOne 67 = .ok (.aload_n 0, 1) := by decide +kernel
theorem dX7_doesOne_68 : decode cX7_doesOne 68 = .ok (.aload_n 0, 1) := by decide +kernel
theorem dX7_doesOne_69 : decode cX7_doesOne 69 = .ok (.getfield 38, 3) := by decide +kernel
theorem dX7_doesOne_72 : decode cX7_doesOne 72 = .ok (.iload_n 1, 1) := by decide +kernel
theorem dX7_doesOne_73 : decode cX7_doesOne 73 = .ok (.iaload, 1) := by decide +kernel
theorem dX7_doesOne_74 : decode cX7_doesOne 74 = .ok (.iload_n 1, 1) := by decide +kernel
theorem dX7_doesOne_75 : decode cX7_doesOne 75 = .ok (.iload_n 2, 1) := by decide +kernel
theorem dX7_doesOne_76 : decode cX7_doesOne 76 = .ok (.iload_n 3, 1) := by decide +kernel
theorem dX7_doesOne_77 : decode cX7_doesOne 77 = .ok (.iconst 1, 1) := by decide +kernel
theorem dX7_doesOne_78 : decode cX7_doesOne 78 = .ok (.invokevirtual 181, 3) := by decide +kernel
theorem dX7_doesOne_81 : decode cX7_doesOne 81 = .ok (.aload_n 0, 1) := by decide +kernel
theorem dX7_doesOne_82 : decode cX7_doesOne 82 = .ok (.iload_n 1, 1) := by decide +kernel
theorem dX7_doesOne_83 : decode cX7_doesOne 83 = .ok (.aload_n 0, 1) := by decide +kernel
theorem dX7_doesOne_84 : decode cX7_doesOne 84 = .ok (.getfield 38, 3) := by decide +kernel
theorem dX7_doesOne_87 : decode cX7_doesOne 87 = .ok (.iload_n 1, 1) := by decide +kernel
theorem dX7_doesOne_88 : decode cX7_doesOne 88 = .ok (.iaload, 1) := by decide +kernel
theorem dX7_doesOne_89 : decode cX7_doesOne 89 = .ok (.iload_n 2, 1) := by decide +kernel
theorem dX7_doesOne_90 : decode cX7_doesOne 90 = .ok (.iload_n 3, 1) := by decide +kernel
theorem dX7_doesOne_91 : decode cX7_doesOne 91 = .ok (.invokevirtual 167, 3) := by decide +kernel
theorem dX7_doesOne_94 : decode cX7_doesOne 94 = .ok (.return_, 1) := by decide +kernel
theorem dX7_doesAll_0 : decode cX7_doesAll 0 = .ok (.iconst 0, 1) := by decide +kernel
theorem dX7_doesAll_1 : decode cX7_doesAll 1 = .ok (.istore_n 1, 1) := by decide +kernel
theorem dX7_doesAll_2 : decode cX7_doesAll 2 = .ok (.iload_n 1, 1) := by decide +kernel
theorem dX7_doesAll_3 : decode cX7_doesAll 3 = .ok (.aload_n 0, 1) := by decide +kernel
theorem dX7_doesAll_4 : decode cX7_doesAll 4 = .ok (.getfield 164, 3) := by decide +kernel
theorem dX7_doesAll_7 : decode cX7_doesAll 7 = .ok (.if_icmp .ge 31, 3) := by decide +kernel
theorem dX7_doesAll_10 : decode cX7_doesAll 10 = .ok (.aload_n 0, 1) := by decide +kernel
theorem dX7_doesAll_11 : decode cX7_doesAll 11 = .ok (.aload_n 0, 1) := by decide +kernel
theorem dX7_doesAll_12 : decode cX7_doesAll 12 = .ok (.getfield 119, 3) := by decide +kernel
theorem dX7_doesAll_15 : decode cX7_doesAll 15 = .ok (.iload_n 1, 1) := by decide +kernel
theorem dX7_doesAll_16 : decode cX7_doesAll 16 = .ok (.iaload, 1) := by decide +kernel
theorem dX7_doesAll_17 : decode cX7_doesAll 17 = .ok (.aload_n 0, 1) := by decide +kernel
theorem dX7_doesAll_18 : decode cX7_doesAll 18 = .ok (.getfield 122, 3) := by decide +kernel
theorem dX7_doesAll_21 : decode cX7_doesAll 21 = .ok (.iload_n 1, 1) := by decide +kernel
theorem dX7_doesAll_22 : decode cX7_doesAll 22 = .ok (.iaload, 1) := by decide +kernel
theorem dX7_doesAll_23 : decode cX7_doesAll 23 = .ok (.aload_n 0, 1) := by decide +kernel
theorem dX7_doesAll_24 : decode cX7_doesAll 24 = .ok (.getfield 125, 3) := by decide +kernel
theorem dX7_doesAll_27 : decode cX7_doesAll 27 = .ok (.iload_n 1, 1) := by decide +kernel
theorem dX7_doesAll_28 : decode cX7_doesAll 28 = .ok (.iaload, 1) := by decide +kernel
theorem dX7_doesAll_29 : decode cX7_doesAll 29 = .ok (.invokevirtual 206, 3) := by decide +kernel
theorem dX7_doesAll_32 : decode cX7_doesAll 32 = .ok (.iinc 1 1, 3) := by decide +kernel
theorem dX7_doesAll_35 : decode cX7_doesAll 35 = .ok (.goto (-33), 3) := by decide +kernel
theorem dX7_doesAll_38 : decode cX7_doesAll 38 = .ok (.aload_n 0, 1) := by decide +kernel
theorem dX7_doesAll_39 : decode cX7_doesAll 39 = .ok (.iconst 0, 1) := by decide +kernel
theorem dX7_doesAll_40 : decode cX7_doesAll 40 = .ok (.putfield 164, 3) := by decide +kernel
theorem dX7_doesAll_43 : decode cX7_doesAll 43 = .ok (.return_, 1) := by decide +kernel
theorem dX7_answers_0 : decode cX7_answers 0 = .ok (.aload_n 0, 1) := by decide +kernel
theorem dX7_answers_1 : decode cX7_answers 1 = .ok (.getfield 209, 3) := by decide +kernel
theorem dX7_answers_4 : decode cX7_answers 4 = .ok (.ifCond .lt 19, 3) := by decide +kernel
theorem dX7_answers_7 : decode cX7_answers 7 = .ok (.aload_n 0, 1) := by decide +kernel
theorem dX7_answers_8 : decode cX7_answers 8 = .ok (.aload_n 0, 1) := by decide +kernel
theorem dX7_answers_9 : decode cX7_answers 9 = .ok (.getfield 209, 3) := by decide +kernel
theorem dX7_answers_12 : decode cX7_answers 12 = .ok (.aload_n 0, 1) := by decide +kernel
theorem dX7_answers_13 : decode cX7_answers 13 = .ok (.getfield 7, 3) := by decide +kernel
theorem dX7_answers_16 : decode cX7_answers 16 = .ok (.iload_n 1, 1) := by decide +kernel
theorem dX7_answers_17 : decode cX7_answers 17 = .ok (.iaload, 1) := by decide +kernel
theorem dX7_answers_18 : decode cX7_answers 18 = .ok (.iload_n 2, 1) := by decide +kernel
theorem dX7_answers_19 : decode cX7_answers 19 = .ok (.iload_n 3, 1) := by decide +kernel
theorem dX7_answers_20 : decode cX7_answers 20 = .ok (.invokevirtual 185, 3) := by decide +kernel
theorem dX7_answers_23 : decode cX7_answers 23 = .ok (.return_, 1) := by decide +kernel
theorem dX7_breaks_0 : decode cX7_breaks 0 = .ok (.aload_n 0, 1) := by decide +kernel
theorem dX7_breaks_1 : decode cX7_breaks 1 = .ok (.iload_n 1, 1) := by decide +kernel
theorem dX7_breaks_2 : decode cX7_breaks 2 = .ok (.iconst 3, 1) := by decide +kernel
theorem dX7_breaks_3 : decode cX7_breaks 3 = .ok (.iload_n 2, 1) := by decide +kernel
theorem dX7_breaks_4 : decode cX7_breaks 4 = .ok (.invokevirtual 212, 3) := by decide +kernel
theorem dX7_breaks_7 : decode cX7_breaks 7 = .ok (.return_, 1) := by decide +kernel
theorem dX7_cell_0 : decode cX7_cell 0 = .ok (.aload_n 0, 1) := by decide +kernel
theorem dX7_cell_1 : decode cX7_cell 1 = .ok (.getfield 16, 3) := by decide +kernel
theorem dX7_cell_4 : decode cX7_cell 4 = .ok (.iload_n 1, 1) := by decide +kernel
theorem dX7_cell_5 : decode cX7_cell 5 = .ok (.iaload, 1) := by decide +kernel
theorem dX7_cell_6 : decode cX7_cell 6 = .ok (.istore_n 2, 1) := by decide +kernel
theorem dX7_cell_7 : decode cX7_cell 7 = .ok (.aload_n 0, 1) := by decide +kernel
theorem dX7_cell_8 : decode cX7_cell 8 = .ok (.dup, 1) := by decide +kernel
theorem dX7_cell_9 : decode cX7_cell 9 = .ok (.getfield 215, 3) := by decide +kernel
theorem dX7_cell_12 : decode cX7_cell 12 = .ok (.lconst 1, 1) := by decide +kernel
theorem dX7_cell_13 : decode cX7_cell 13 = .ok (.ladd, 1) := by decide +kernel
theorem dX7_cell_14 : decode cX7_cell 14 = .ok (.putfield 215, 3) := by decide +kernel
theorem dX7_cell_17 : decode cX7_cell 17 = .ok (.aload_n 0, 1) := by decide +kernel
theorem dX7_cell_18 : decode cX7_cell 18 = .ok (.getfield 219, 3) := by decide +kernel
theorem dX7_cell_21 : decode cX7_cell 21 = .ok (.tableswitch 141 0 7 #[47, 57, 77, 104, 141, 141, 141, 131], 47) := by decide +kernel
theorem dX7_cell_68 : decode cX7_cell 68 = .ok (.aload_n 0, 1) := by decide +kernel
theorem dX7_cell_69 : decode cX7_cell 69 = .ok (.iload_n 1, 1) := by decide +kernel
theorem dX7_cell_70 : decode cX7_cell 70 = .ok (.iconst 1, 1) := by decide +kernel
theorem dX7_cell_71 : decode cX7_cell 71 = .ok (.iload_n 2, 1) := by decide +kernel
theorem dX7_cell_72 : decode cX7_cell 72 = .ok (.invokevirtual 212, 3) := by decide +kernel
theorem dX7_cell_75 : decode cX7_cell 75 = .ok (.goto 93, 3) := by decide +kernel
theorem dX7_cell_78 : decode cX7_cell 78 = .ok (.aload_n 0, 1) := by decide +kernel
theorem dX7_cell_79 : decode cX7_cell 79 = .ok (.getfield 16, 3) := by decide +kernel
theorem dX7_cell_82 : decode cX7_cell 82 = .ok (.iload_n 1, 1) := by decide +kernel
theorem dX7_cell_83 : decode cX7_cell 83 = .ok (.aload_n 0, 1) := by decide +kernel
theorem dX7_cell_84 : decode cX7_cell 84 = .ok (.getfield 222, 3) := by decide +kernel
theorem dX7_cell_87 : decode cX7_cell 87 = .ok (.iastore, 1) := by decide +kernel
theorem dX7_cell_88 : decode cX7_cell 88 = .ok (.aload_n 0, 1) := by decide +kernel
theorem dX7_cell_89 : decode cX7_cell 89 = .ok (.iload_n 1, 1) := by decide +kernel
theorem dX7_cell_90 : decode cX7_cell 90 = .ok (.iconst 1, 1) := by decide +kernel
theorem dX7_cell_91 : decode cX7_cell 91 = .ok (.iload_n 2, 1) := by decide +kernel
theorem dX7_cell_92 : decode cX7_cell 92 = .ok (.invokevirtual 212, 3) := by decide +kernel
theorem dX7_cell_95 : decode cX7_cell 95 = .ok (.goto 73, 3) := by decide +kernel
theorem dX7_cell_98 : decode cX7_cell 98 = .ok (.aload_n 0, 1) := by decide +kernel
theorem dX7_cell_99 : decode cX7_cell 99 = .ok (.getfield 16, 3) := by decide +kernel
theorem dX7_cell_102 : decode cX7_cell 102 = .ok (.iload_n 1, 1) := by decide +kernel
theorem dX7_cell_103 : decode cX7_cell 103 = .ok (.iload_n 2, 1) := by decide +kernel
theorem dX7_cell_104 : decode cX7_cell 104 = .ok (.aload_n 0, 1) := by decide +kernel
theorem dX7_cell_105 : decode cX7_cell 105 = .ok (.getfield 222, 3) := by decide +kernel
theorem dX7_cell_108 : decode cX7_cell 108 = .ok (.iadd, 1) := by decide +kernel
theorem dX7_cell_109 : decode cX7_cell 109 = .ok (.iastore, 1) := by decide +kernel
theorem dX7_cell_110 : decode cX7_cell 110 = .ok (.aload_n 0, 1) := by decide +kernel
theorem dX7_cell_111 : decode cX7_cell 111 = .ok (.iload_n 1, 1) := by decide +kernel
theorem dX7_cell_112 : decode cX7_cell 112 = .ok (.iconst 1, 1) := by decide +kernel
theorem dX7_cell_113 : decode cX7_cell 113 = .ok (.aload_n 0, 1) := by decide +kernel
theorem dX7_cell_114 : decode cX7_cell 114 = .ok (.getfield 16, 3) := by decide +kernel
theorem dX7_cell_117 : decode cX7_cell 117 = .ok (.iload_n 1, 1) := by decide +kernel
theorem dX7_cell_118 : decode cX7_cell 118 = .ok (.iaload, 1) := by decide +kernel
theorem dX7_cell_119 : decode cX7_cell 119 = .ok (.invokevirtual 212, 3) := by decide +kernel
theorem dX7_cell_122 : decode cX7_cell 122 = .ok (.goto 46, 3) := by decide +kernel
theorem dX7_cell_125 : decode cX7_cell 125 = .ok (.aload_n 0, 1) := by decide +kernel
theorem dX7_cell_126 : decode cX7_cell 126 = .ok (.getfield 16, 3) := by decide +kernel
theorem dX7_cell_129 : decode cX7_cell 129 = .ok (.iload_n 1, 1) := by decide +kernel
theorem dX7_cell_130 : decode cX7_cell 130 = .ok (.iload_n 2, 1) := by decide +kernel
theorem dX7_cell_131 : decode cX7_cell 131 = .ok (.aload_n 0, 1) := by decide +kernel
theorem dX7_cell_132 : decode cX7_cell 132 = .ok (.getfield 222, 3) := by decide +kernel
theorem dX7_cell_135 : decode cX7_cell 135 = .ok (.isub, 1) := by decide +kernel
theorem dX7_cell_136 : decode cX7_cell 136 = .ok (.iastore, 1) := by decide +kernel
theorem dX7_cell_137 : decode cX7_cell 137 = .ok (.aload_n 0, 1) := by decide +kernel
theorem dX7_cell_138 : decode cX7_cell 138 = .ok (.iload_n 1, 1) := by decide +kernel
theorem dX7_cell_139 : decode cX7_cell 139 = .ok (.iconst 1, 1) := by decide +kernel
theorem dX7_cell_140 : decode cX7_cell 140 = .ok (.aload_n 0, 1) := by decide +kernel
theorem dX7_cell_141 : decode cX7_cell 141 = .ok (.getfield 16, 3) := by decide +kernel
theorem dX7_cell_144 : decode cX7_cell 144 = .ok (.iload_n 1, 1) := by decide +kernel
theorem dX7_cell_145 : decode cX7_cell 145 = .ok (.iaload, 1) := by decide +kernel
theorem dX7_cell_146 : decode cX7_cell 146 = .ok (.invokevirtual 212, 3) := by decide +kernel
theorem dX7_cell_149 : decode cX7_cell 149 = .ok (.goto 19, 3) := by decide +kernel
theorem dX7_cell_152 : decode cX7_cell 152 = .ok (.aload_n 0, 1) := by decide +kernel
theorem dX7_cell_153 : decode cX7_cell 153 = .ok (.iload_n 1, 1) := by decide +kernel
theorem dX7_cell_154 : decode cX7_cell 154 = .ok (.iconst 2, 1) := by decide +kernel
theorem dX7_cell_155 : decode cX7_cell 155 = .ok (.iload_n 1, 1) := by decide +kernel
theorem dX7_cell_156 : decode cX7_cell 156 = .ok (.invokevirtual 212, 3) := by decide +kernel
theorem dX7_cell_159 : decode cX7_cell 159 = .ok (.goto 9, 3) := by decide +kernel
theorem dX7_cell_162 : decode cX7_cell 162 = .ok (.aload_n 0, 1) := by decide +kernel
theorem dX7_cell_163 : decode cX7_cell 163 = .ok (.iload_n 1, 1) := by decide +kernel
theorem dX7_cell_164 : decode cX7_cell 164 = .ok (.iconst 3, 1) := by decide +kernel
theorem dX7_cell_165 : decode cX7_cell 165 = .ok (.invokevirtual 225, 3) := by decide +kernel
theorem dX7_cell_168 : decode cX7_cell 168 = .ok (.return_, 1) := by decide +kernel
theorem dX7_moves_0 : decode cX7_moves 0 = .ok (.aload_n 0, 1) := by decide +kernel
theorem dX7_moves_1 : decode cX7_moves 1 = .ok (.getfield 65, 3) := by decide +kernel
theorem dX7_moves_4 : decode cX7_moves 4 = .ok (.aload_n 0, 1) := by decide +kernel
theorem dX7_moves_5 : decode cX7_moves 5 = .ok (.getfield 209, 3) := by decide +kernel
theorem dX7_moves_8 : decode cX7_moves 8 = .ok (.iaload, 1) := by decide +kernel
theorem dX7_moves_9 : decode cX7_moves 9 = .ok (.istore_n 2, 1) := by decide +kernel
theorem dX7_moves_10 : decode cX7_moves 10 = .ok (.aload_n 0, 1) := by decide +kernel
theorem dX7_moves_11 : decode cX7_moves 11 = .ok (.getfield 13, 3) := by decide +kernel
theorem dX7_moves_14 : decode cX7_moves 14 = .ok (.iload_n 2, 1) := by decide +kernel
theorem dX7_moves_15 : decode cX7_moves 15 = .ok (.iaload, 1) := by decide +kernel
theorem dX7_moves_16 : decode cX7_moves 16 = .ok (.iconst 1, 1) := by decide +kernel
theorem dX7_moves_17 : decode cX7_moves 17 = .ok (.if_icmp .eq 12, 3) := by decide +kernel
theorem dX7_moves_20 : decode cX7_moves 20 = .ok (.aload_n 0, 1) := by decide +kernel
theorem dX7_moves_21 : decode cX7_moves 21 = .ok (.iload_n 1, 1) := by decide +kernel
theorem dX7_moves_22 : decode cX7_moves 22 = .ok (.iconst 3, 1) := by decide +kernel
theorem dX7_moves_23 : decode cX7_moves 23 = .ok (.invokevirtual 225, 3) := by decide +kernel
theorem dX7_moves_26 : decode cX7_moves 26 = .ok (.goto 73, 3) := by decide +kernel
theorem dX7_moves_29 : decode cX7_moves 29 = .ok (.aload_n 0, 1) := by decide +kernel
theorem dX7_moves_30 : decode cX7_moves 30 = .ok (.getfield 16, 3) := by decide +kernel
theorem dX7_moves_33 : decode cX7_moves 33 = .ok (.iload_n 1, 1) := by decide +kernel
theorem dX7_moves_34 : decode cX7_moves 34 = .ok (.iaload, 1) := by decide +kernel
theorem dX7_moves_35 : decode cX7_moves 35 = .ok (.aload_n 0, 1) := by decide +kernel
theorem dX7_moves_36 : decode cX7_moves 36 = .ok (.getfield 222, 3) := by decide +kernel
theorem dX7_moves_39 : decode cX7_moves 39 = .ok (.if_icmp .ge 12, 3) := by decide +kernel
theorem dX7_moves_42 : decode cX7_moves 42 = .ok (.aload_n 0, 1) := by decide +kernel
theorem dX7_moves_43 : decode cX7_moves 43 = .ok (.iload_n 1, 1) := by decide +kernel
theorem dX7_moves_44 : decode cX7_moves 44 = .ok (.iconst 2, 1) := by decide +kernel
theorem dX7_moves_45 : decode cX7_moves 45 = .ok (.invokevirtual 225, 3) := by decide +kernel
theorem dX7_moves_48 : decode cX7_moves 48 = .ok (.goto 51, 3) := by decide +kernel
theorem dX7_moves_51 : decode cX7_moves 51 = .ok (.aload_n 0, 1) := by decide +kernel
theorem dX7_moves_52 : decode cX7_moves 52 = .ok (.getfield 16, 3) := by decide +kernel
theorem dX7_moves_55 : decode cX7_moves 55 = .ok (.iload_n 1, 1) := by decide +kernel
theorem dX7_moves_56 : decode cX7_moves 56 = .ok (.dup2, 1) := by decide +kernel
theorem dX7_moves_57 : decode cX7_moves 57 = .ok (.iaload, 1) := by decide +kernel
theorem dX7_moves_58 : decode cX7_moves 58 = .ok (.aload_n 0, 1) := by decide +kernel
theorem dX7_moves_59 : decode cX7_moves 59 = .ok (.getfield 222, 3) := by decide +kernel
theorem dX7_moves_62 : decode cX7_moves 62 = .ok (.isub, 1) := by decide +kernel
theorem dX7_moves_63 : decode cX7_moves 63 = .ok (.iastore, 1) := by decide +kernel
theorem dX7_moves_64 : decode cX7_moves 64 = .ok (.aload_n 0, 1) := by decide +kernel
theorem dX7_moves_65 : decode cX7_moves 65 = .ok (.getfield 59, 3) := by decide +kernel
theorem dX7_moves_68 : decode cX7_moves 68 = .ok (.aload_n 0, 1) := by decide +kernel
theorem dX7_moves_69 : decode cX7_moves 69 = .ok (.getfield 209, 3) := by decide +kernel
theorem dX7_moves_72 : decode cX7_moves 72 = .ok (.iconst 2, 1) := by decide +kernel
theorem dX7_moves_73 : decode cX7_moves 73 = .ok (.iastore, 1) := by decide +kernel
theorem dX7_moves_74 : decode cX7_moves 74 = .ok (.aload_n 0, 1) := by decide +kernel
theorem dX7_moves_75 : decode cX7_moves 75 = .ok (.getfield 68, 3) := by decide +kernel
theorem dX7_moves_78 : decode cX7_moves 78 = .ok (.aload_n 0, 1) := by decide +kernel
theorem dX7_moves_79 : decode cX7_moves 79 = .ok (.getfield 209, 3) := by decide +kernel
theorem dX7_moves_82 : decode cX7_moves 82 = .ok (.iload_n 1, 1) := by decide +kernel
theorem dX7_moves_83 : decode cX7_moves 83 = .ok (.iastore, 1) := by decide +kernel
theorem dX7_moves_84 : decode cX7_moves 84 = .ok (.aload_n 0, 1) := by decide +kernel
theorem dX7_moves_85 : decode cX7_moves 85 = .ok (.aload_n 0, 1) := by decide +kernel
theorem dX7_moves_86 : decode cX7_moves 86 = .ok (.getfield 209, 3) := by decide +kernel
theorem dX7_moves_89 : decode cX7_moves 89 = .ok (.aload_n 0, 1) := by decide +kernel
theorem dX7_moves_90 : decode cX7_moves 90 = .ok (.getfield 7, 3) := by decide +kernel
theorem dX7_moves_93 : decode cX7_moves 93 = .ok (.iload_n 1, 1) := by decide +kernel
theorem dX7_moves_94 : decode cX7_moves 94 = .ok (.iaload, 1) := by decide +kernel
theorem dX7_moves_95 : decode cX7_moves 95 = .ok (.iload_n 2, 1) := by decide +kernel
theorem dX7_moves_96 : decode cX7_moves 96 = .ok (.invokevirtual 196, 3) := by decide +kernel
theorem dX7_moves_99 : decode cX7_moves 99 = .ok (.return_, 1) := by decide +kernel
theorem dX7_purse_0 : decode cX7_purse 0 = .ok (.aload_n 0, 1) := by decide +kernel
theorem dX7_purse_1 : decode cX7_purse 1 = .ok (.dup, 1) := by decide +kernel
theorem dX7_purse_2 : decode cX7_purse 2 = .ok (.getfield 215, 3) := by decide +kernel
theorem dX7_purse_5 : decode cX7_purse 5 = .ok (.ldc2_w 228, 3) := by decide +kernel
theorem dX7_purse_8 : decode cX7_purse 8 = .ok (.ladd, 1) := by decide +kernel
theorem dX7_purse_9 : decode cX7_purse 9 = .ok (.putfield 215, 3) := by decide +kernel
theorem dX7_purse_12 : decode cX7_purse 12 = .ok (.aload_n 0, 1) := by decide +kernel
theorem dX7_purse_13 : decode cX7_purse 13 = .ok (.getfield 219, 3) := by decide +kernel
theorem dX7_purse_16 : decode cX7_purse 16 = .ok (.iconst 2, 1) := by decide +kernel
theorem dX7_purse_17 : decode cX7_purse 17 = .ok (.if_icmp .eq 19, 3) := by decide +kernel
theorem dX7_purse_20 : decode cX7_purse 20 = .ok (.aload_n 0, 1) := by decide +kernel
theorem dX7_purse_21 : decode cX7_purse 21 = .ok (.getfield 219, 3) := by decide +kernel
theorem dX7_purse_24 : decode cX7_purse 24 = .ok (.iconst 3, 1) := by decide +kernel
theorem dX7_purse_25 : decode cX7_purse 25 = .ok (.if_icmp .eq 11, 3) := by decide +kernel
theorem dX7_purse_28 : decode cX7_purse 28 = .ok (.aload_n 0, 1) := by decide +kernel
theorem dX7_purse_29 : decode cX7_purse 29 = .ok (.getfield 219, 3) := by decide +kernel
theorem dX7_purse_32 : decode cX7_purse 32 = .ok (.iconst 4, 1) := by decide +kernel
theorem dX7_purse_33 : decode cX7_purse 33 = .ok (.if_icmp .ne 7, 3) := by decide +kernel
theorem dX7_purse_36 : decode cX7_purse 36 = .ok (.iconst 1, 1) := by decide +kernel
theorem dX7_purse_37 : decode cX7_purse 37 = .ok (.goto 4, 3) := by decide +kernel
theorem dX7_purse_40 : decode cX7_purse 40 = .ok (.iconst 0, 1) := by decide +kernel
theorem dX7_purse_41 : decode cX7_purse 41 = .ok (.istore_n 2, 1) := by decide +kernel
theorem dX7_purse_42 : decode cX7_purse 42 = .ok (.aload_n 0, 1) := by decide +kernel
theorem dX7_purse_43 : decode cX7_purse 43 = .ok (.getfield 219, 3) := by decide +kernel
theorem dX7_purse_46 : decode cX7_purse 46 = .ok (.iconst 1, 1) := by decide +kernel
theorem dX7_purse_47 : decode cX7_purse 47 = .ok (.if_icmp .eq 14, 3) := by decide +kernel
theorem dX7_purse_50 : decode cX7_purse 50 = .ok (.iload_n 2, 1) := by decide +kernel
theorem dX7_purse_51 : decode cX7_purse 51 = .ok (.ifCond .eq 19, 3) := by decide +kernel
theorem dX7_purse_54 : decode cX7_purse 54 = .ok (.aload_n 0, 1) := by decide +kernel
theorem dX7_purse_55 : decode cX7_purse 55 = .ok (.getfield 222, 3) := by decide +kernel
theorem dX7_purse_58 : decode cX7_purse 58 = .ok (.ifCond .ge 12, 3) := by decide +kernel
theorem dX7_purse_61 : decode cX7_purse 61 = .ok (.aload_n 0, 1) := by decide +kernel
theorem dX7_purse_62 : decode cX7_purse 62 = .ok (.iload_n 1, 1) := by decide +kernel
theorem dX7_purse_63 : decode cX7_purse 63 = .ok (.iconst 3, 1) := by decide +kernel
theorem dX7_purse_64 : decode cX7_purse 64 = .ok (.invokevirtual 225, 3) := by decide +kernel
theorem dX7_purse_67 : decode cX7_purse 67 = .ok (.goto 54, 3) := by decide +kernel
theorem dX7_purse_70 : decode cX7_purse 70 = .ok (.aload_n 0, 1) := by decide +kernel
theorem dX7_purse_71 : decode cX7_purse 71 = .ok (.getfield 219, 3) := by decide +kernel
theorem dX7_purse_74 : decode cX7_purse 74 = .ok (.iconst 3, 1) := by decide +kernel
theorem dX7_purse_75 : decode cX7_purse 75 = .ok (.if_icmp .ne 25, 3) := by decide +kernel
theorem dX7_purse_78 : decode cX7_purse 78 = .ok (.aload_n 0, 1) := by decide +kernel
theorem dX7_purse_79 : decode cX7_purse 79 = .ok (.getfield 16, 3) := by decide +kernel
theorem dX7_purse_82 : decode cX7_purse 82 = .ok (.iload_n 1, 1) := by decide +kernel
theorem dX7_purse_83 : decode cX7_purse 83 = .ok (.iaload, 1) := by decide +kernel
theorem dX7_purse_84 : decode cX7_purse 84 = .ok (.aload_n 0, 1) := by decide +kernel
theorem dX7_purse_85 : decode cX7_purse 85 = .ok (.getfield 222, 3) := by decide +kernel
theorem dX7_purse_88 : decode cX7_purse 88 = .ok (.if_icmp .ge 12, 3) := by decide +kernel
theorem dX7_purse_91 : decode cX7_purse 91 = .ok (.aload_n 0, 1) := by decide +kernel
theorem dX7_purse_92 : decode cX7_purse 92 = .ok (.iload_n 1, 1) := by decide +kernel
theorem dX7_purse_93 : decode cX7_purse 93 = .ok (.iconst 2, 1) := by decide +kernel
theorem dX7_purse_94 : decode cX7_purse 94 = .ok (.invokevirtual 225, 3) := by decide +kernel
theorem dX7_purse_97 : decode cX7_purse 97 = .ok (.goto 24, 3) := by decide +kernel
theorem dX7_purse_100 : decode cX7_purse 100 = .ok (.aload_n 0, 1) := by decide +kernel
theorem dX7_purse_101 : decode cX7_purse 101 = .ok (.getfield 219, 3) := by decide +kernel
theorem dX7_purse_104 : decode cX7_purse 104 = .ok (.iconst 4, 1) := by decide +kernel
theorem dX7_purse_105 : decode cX7_purse 105 = .ok (.if_icmp .ne 11, 3) := by decide +kernel
theorem dX7_purse_108 : decode cX7_purse 108 = .ok (.aload_n 0, 1) := by decide +kernel
theorem dX7_purse_109 : decode cX7_purse 109 = .ok (.iload_n 1, 1) := by decide +kernel
theorem dX7_purse_110 : decode cX7_purse 110 = .ok (.invokevirtual 230, 3) := by decide +kernel
theorem dX7_purse_113 : decode cX7_purse 113 = .ok (.goto 8, 3) := by decide +kernel
theorem dX7_purse_116 : decode cX7_purse 116 = .ok (.aload_n 0, 1) := by decide +kernel
theorem dX7_purse_117 : decode cX7_purse 117 = .ok (.iload_n 1, 1) := by decide +kernel
theorem dX7_purse_118 : decode cX7_purse 118 = .ok (.invokevirtual 234, 3) := by decide +kernel
theorem dX7_purse_121 : decode cX7_purse 121 = .ok (.return_, 1) := by decide +kernel
theorem dX7_maker_0 : decode cX7_maker 0 = .ok (.aload_n 0, 1) := by decide +kernel
theorem dX7_maker_1 : decode cX7_maker 1 = .ok (.dup, 1) := by decide +kernel
theorem dX7_maker_2 : decode cX7_maker 2 = .ok (.getfield 215, 3) := by decide +kernel
theorem dX7_maker_5 : decode cX7_maker 5 = .ok (.ldc2_w 237, 3) := by decide +kernel
theorem dX7_maker_8 : decode cX7_maker 8 = .ok (.ladd, 1) := by decide +kernel
theorem dX7_maker_9 : decode cX7_maker 9 = .ok (.putfield 215, 3) := by decide +kernel
theorem dX7_maker_12 : decode cX7_maker 12 = .ok (.aload_n 0, 1) := by decide +kernel
theorem dX7_maker_13 : decode cX7_maker 13 = .ok (.getfield 219, 3) := by decide +kernel
theorem dX7_maker_16 : decode cX7_maker 16 = .ok (.ifCond .ne 18, 3) := by decide +kernel
theorem dX7_maker_19 : decode cX7_maker 19 = .ok (.aload_n 0, 1) := by decide +kernel
theorem dX7_maker_20 : decode cX7_maker 20 = .ok (.iload_n 1, 1) := by decide +kernel
theorem dX7_maker_21 : decode cX7_maker 21 = .ok (.iconst 1, 1) := by decide +kernel
theorem dX7_maker_22 : decode cX7_maker 22 = .ok (.aload_n 0, 1) := by decide +kernel
theorem dX7_maker_23 : decode cX7_maker 23 = .ok (.getfield 16, 3) := by decide +kernel
theorem dX7_maker_26 : decode cX7_maker 26 = .ok (.iload_n 1, 1) := by decide +kernel
theorem dX7_maker_27 : decode cX7_maker 27 = .ok (.iaload, 1) := by decide +kernel
theorem dX7_maker_28 : decode cX7_maker 28 = .ok (.invokevirtual 212, 3) := by decide +kernel
theorem dX7_maker_31 : decode cX7_maker 31 = .ok (.goto 103, 3) := by decide +kernel
theorem dX7_maker_34 : decode cX7_maker 34 = .ok (.aload_n 0, 1) := by decide +kernel
theorem dX7_maker_35 : decode cX7_maker 35 = .ok (.getfield 219, 3) := by decide +kernel
theorem dX7_maker_38 : decode cX7_maker 38 = .ok (.bipush 7, 2) := by decide +kernel
theorem dX7_maker_40 : decode cX7_maker 40 = .ok (.if_icmp .ne 13, 3) := by decide +kernel
theorem dX7_maker_43 : decode cX7_maker 43 = .ok (.aload_n 0, 1) := by decide +kernel
theorem dX7_maker_44 : decode cX7_maker 44 = .ok (.iload_n 1, 1) := by decide +kernel
theorem dX7_maker_45 : decode cX7_maker 45 = .ok (.iconst 2, 1) := by decide +kernel
theorem dX7_maker_46 : decode cX7_maker 46 = .ok (.iload_n 1, 1) := by decide +kernel
theorem dX7_maker_47 : decode cX7_maker 47 = .ok (.invokevirtual 212, 3) := by decide +kernel
theorem dX7_maker_50 : decode cX7_maker 50 = .ok (.goto 84, 3) := by decide +kernel
theorem dX7_maker_53 : decode cX7_maker 53 = .ok (.aload_n 0, 1) := by decide +kernel
theorem dX7_maker_54 : decode cX7_maker 54 = .ok (.getfield 219, 3) := by decide +kernel
theorem dX7_maker_57 : decode cX7_maker 57 = .ok (.iconst 5, 1) := by decide +kernel
theorem dX7_maker_58 : decode cX7_maker 58 = .ok (.if_icmp .ne 15, 3) := by decide +kernel
theorem dX7_maker_61 : decode cX7_maker 61 = .ok (.aload_n 0, 1) := by decide +kernel
theorem dX7_maker_62 : decode cX7_maker 62 = .ok (.getfield 222, 3) := by decide +kernel
theorem dX7_maker_65 : decode cX7_maker 65 = .ok (.iconst 0, 1) := by decide +kernel
theorem dX7_maker_66 : decode cX7_maker 66 = .ok (.iconst 2, 1) := by decide +kernel
theorem dX7_maker_67 : decode cX7_maker 67 = .ok (.invokestatic 132, 3) := by decide +kernel
theorem dX7_maker_70 : decode cX7_maker 70 = .ok (.ifCond .ne 12, 3) := by decide +kernel
theorem dX7_maker_73 : decode cX7_maker 73 = .ok (.aload_n 0, 1) := by decide +kernel
theorem dX7_maker_74 : decode cX7_maker 74 = .ok (.iload_n 1, 1) := by decide +kernel
theorem dX7_maker_75 : decode cX7_maker 75 = .ok (.iconst 3, 1) := by decide +kernel
theorem dX7_maker_76 : decode cX7_maker 76 = .ok (.invokevirtual 225, 3) := by decide +kernel
theorem dX7_maker_79 : decode cX7_maker 79 = .ok (.goto 55, 3) := by decide +kernel
theorem dX7_maker_82 : decode cX7_maker 82 = .ok (.aload_n 0, 1) := by decide +kernel
theorem dX7_maker_83 : decode cX7_maker 83 = .ok (.getfield 128, 3) := by decide +kernel
theorem dX7_maker_86 : decode cX7_maker 86 = .ok (.bipush 40, 2) := by decide +kernel
theorem dX7_maker_88 : decode cX7_maker 88 = .ok (.if_icmp .ne 12, 3) := by decide +kernel
theorem dX7_maker_91 : decode cX7_maker 91 = .ok (.aload_n 0, 1) := by decide +kernel
theorem dX7_maker_92 : decode cX7_maker 92 = .ok (.iload_n 1, 1) := by decide +kernel
theorem dX7_maker_93 : decode cX7_maker 93 = .ok (.iconst 5, 1) := by decide +kernel
theorem dX7_maker_94 : decode cX7_maker 94 = .ok (.invokevirtual 225, 3) := by decide +kernel
theorem dX7_maker_97 : decode cX7_maker 97 = .ok (.goto 37, 3) := by decide +kernel
theorem dX7_maker_100 : decode cX7_maker 100 = .ok (.aload_n 0, 1) := by decide +kernel
theorem dX7_maker_101 : decode cX7_maker 101 = .ok (.getfield 16, 3) := by decide +kernel
theorem dX7_maker_104 : decode cX7_maker 104 = .ok (.iload_n 1, 1) := by decide +kernel
theorem dX7_maker_105 : decode cX7_maker 105 = .ok (.dup2, 1) := by decide +kernel
theorem dX7_maker_106 : decode cX7_maker 106 = .ok (.iaload, 1) := by decide +kernel
theorem dX7_maker_107 : decode cX7_maker 107 = .ok (.iconst 1, 1) := by decide +kernel
theorem dX7_maker_108 : decode cX7_maker 108 = .ok (.iadd, 1) := by decide +kernel
theorem dX7_maker_109 : decode cX7_maker 109 = .ok (.iastore, 1) := by decide +kernel
theorem dX7_maker_110 : decode cX7_maker 110 = .ok (.aload_n 0, 1) := by decide +kernel
theorem dX7_maker_111 : decode cX7_maker 111 = .ok (.iload_n 1, 1) := by decide +kernel
theorem dX7_maker_112 : decode cX7_maker 112 = .ok (.iconst 2, 1) := by decide +kernel
theorem dX7_maker_113 : decode cX7_maker 113 = .ok (.aload_n 0, 1) := by decide +kernel
theorem dX7_maker_114 : decode cX7_maker 114 = .ok (.aload_n 0, 1) := by decide +kernel
theorem dX7_maker_115 : decode cX7_maker 115 = .ok (.getfield 7, 3) := by decide +kernel
theorem dX7_maker_118 : decode cX7_maker 118 = .ok (.iload_n 1, 1) := by decide +kernel
theorem dX7_maker_119 : decode cX7_maker 119 = .ok (.iaload, 1) := by decide +kernel
theorem dX7_maker_120 : decode cX7_maker 120 = .ok (.aload_n 0, 1) := by decide +kernel
theorem dX7_maker_121 : decode cX7_maker 121 = .ok (.getfield 222, 3) := by decide +kernel
theorem dX7_maker_124 : decode cX7_maker 124 = .ok (.iconst 0, 1) := by decide +kernel
theorem dX7_maker_125 : decode cX7_maker 125 = .ok (.bipush (-9), 2) := by decide +kernel
theorem dX7_maker_127 : decode cX7_maker 127 = .ok (.iconst 0, 1) := by decide +kernel
theorem dX7_maker_128 : decode cX7_maker 128 = .ok (.invokevirtual 139, 3) := by decide +kernel
theorem dX7_maker_131 : decode cX7_maker 131 = .ok (.invokevirtual 212, 3) := by decide +kernel
theorem dX7_maker_134 : decode cX7_maker 134 = .ok (.return_, 1) := by decide +kernel
theorem dX7_guardHears_0 : decode cX7_guardHears 0 = .ok (.aload_n 0, 1) := by decide +kernel
theorem dX7_guardHears_1 : decode cX7_guardHears 1 = .ok (.dup, 1) := by decide +kernel
theorem dX7_guardHears_2 : decode cX7_guardHears 2 = .ok (.getfield 215, 3) := by decide +kernel
theorem dX7_guardHears_5 : decode cX7_guardHears 5 = .ok (.ldc2_w 239, 3) := by decide +kernel
theorem dX7_guardHears_8 : decode cX7_guardHears 8 = .ok (.ladd, 1) := by decide +kernel
theorem dX7_guardHears_9 : decode cX7_guardHears 9 = .ok (.putfield 215, 3) := by decide +kernel
theorem dX7_guardHears_12 : decode cX7_guardHears 12 = .ok (.aload_n 0, 1) := by decide +kernel
theorem dX7_guardHears_13 : decode cX7_guardHears 13 = .ok (.getfield 25, 3) := by decide +kernel
theorem dX7_guardHears_16 : decode cX7_guardHears 16 = .ok (.iload_n 1, 1) := by decide +kernel
theorem dX7_guardHears_17 : decode cX7_guardHears 17 = .ok (.baload, 1) := by decide +kernel
theorem dX7_guardHears_18 : decode cX7_guardHears 18 = .ok (.ifCond .eq 12, 3) := by decide +kernel
theorem dX7_guardHears_21 : decode cX7_guardHears 21 = .ok (.aload_n 0, 1) := by decide +kernel
theorem dX7_guardHears_22 : decode cX7_guardHears 22 = .ok (.iload_n 1, 1) := by decide +kernel
theorem dX7_guardHears_23 : decode cX7_guardHears 23 = .ok (.iconst 4, 1) := by decide +kernel
theorem dX7_guardHears_24 : decode cX7_guardHears 24 = .ok (.invokevirtual 225, 3) := by decide +kernel
theorem dX7_guardHears_27 : decode cX7_guardHears 27 = .ok (.goto 78, 3) := by decide +kernel
theorem dX7_guardHears_30 : decode cX7_guardHears 30 = .ok (.aload_n 0, 1) := by decide +kernel
theorem dX7_guardHears_31 : decode cX7_guardHears 31 = .ok (.getfield 22, 3) := by decide +kernel
theorem dX7_guardHears_34 : decode cX7_guardHears 34 = .ok (.iload_n 1, 1) := by decide +kernel
theorem dX7_guardHears_35 : decode cX7_guardHears 35 = .ok (.iaload, 1) := by decide +kernel
theorem dX7_guardHears_36 : decode cX7_guardHears 36 = .ok (.aload_n 0, 1) := by decide +kernel
theorem dX7_guardHears_37 : decode cX7_guardHears 37 = .ok (.getfield 219, 3) := by decide +kernel
theorem dX7_guardHears_40 : decode cX7_guardHears 40 = .ok (.ishr, 1) := by decide +kernel
theorem dX7_guardHears_41 : decode cX7_guardHears 41 = .ok (.iconst 1, 1) := by decide +kernel
theorem dX7_guardHears_42 : decode cX7_guardHears 42 = .ok (.iand, 1) := by decide +kernel
theorem dX7_guardHears_43 : decode cX7_guardHears 43 = .ok (.ifCond .ne 12, 3) := by decide +kernel
theorem dX7_guardHears_46 : decode cX7_guardHears 46 = .ok (.aload_n 0, 1) := by decide +kernel
theorem dX7_guardHears_47 : decode cX7_guardHears 47 = .ok (.iload_n 1, 1) := by decide +kernel
theorem dX7_guardHears_48 : decode cX7_guardHears 48 = .ok (.iconst 3, 1) := by decide +kernel
theorem dX7_guardHears_49 : decode cX7_guardHears 49 = .ok (.invokevirtual 225, 3) := by decide +kernel
theorem dX7_guardHears_52 : decode cX7_guardHears 52 = .ok (.goto 53, 3) := by decide +kernel
theorem dX7_guardHears_55 : decode cX7_guardHears 55 = .ok (.aload_n 0, 1) := by decide +kernel
theorem dX7_guardHears_56 : decode cX7_guardHears 56 = .ok (.getfield 209, 3) := by decide +kernel
theorem dX7_guardHears_59 : decode cX7_guardHears 59 = .ok (.ifCond .lt 26, 3) := by decide +kernel
theorem dX7_guardHears_62 : decode cX7_guardHears 62 = .ok (.aload_n 0, 1) := by decide +kernel
theorem dX7_guardHears_63 : decode cX7_guardHears 63 = .ok (.aload_n 0, 1) := by decide +kernel
theorem dX7_guardHears_64 : decode cX7_guardHears 64 = .ok (.getfield 209, 3) := by decide +kernel
theorem dX7_guardHears_67 : decode cX7_guardHears 67 = .ok (.aload_n 0, 1) := by decide +kernel
theorem dX7_guardHears_68 : decode cX7_guardHears 68 = .ok (.getfield 7, 3) := by decide +kernel
theorem dX7_guardHears_71 : decode cX7_guardHears 71 = .ok (.iload_n 1, 1) := by decide +kernel
theorem dX7_guardHears_72 : decode cX7_guardHears 72 = .ok (.iaload, 1) := by decide +kernel
theorem dX7_guardHears_73 : decode cX7_guardHears 73 = .ok (.aload_n 0, 1) := by decide +kernel
theorem dX7_guardHears_74 : decode cX7_guardHears 74 = .ok (.getfield 19, 3) := by decide +kernel
theorem dX7_guardHears_77 : decode cX7_guardHears 77 = .ok (.iload_n 1, 1) := by decide +kernel
theorem dX7_guardHears_78 : decode cX7_guardHears 78 = .ok (.iaload, 1) := by decide +kernel
theorem dX7_guardHears_79 : decode cX7_guardHears 79 = .ok (.invokevirtual 196, 3) := by decide +kernel
theorem dX7_guardHears_82 : decode cX7_guardHears 82 = .ok (.goto 23, 3) := by decide +kernel
theorem dX7_guardHears_85 : decode cX7_guardHears 85 = .ok (.aload_n 0, 1) := by decide +kernel
theorem dX7_guardHears_86 : decode cX7_guardHears 86 = .ok (.aload_n 0, 1) := by decide +kernel
theorem dX7_guardHears_87 : decode cX7_guardHears 87 = .ok (.getfield 7, 3) := by decide +kernel
theorem dX7_guardHears_90 : decode cX7_guardHears 90 = .ok (.iload_n 1, 1) := by decide +kernel
theorem dX7_guardHears_91 : decode cX7_guardHears 91 = .ok (.iaload, 1) := by decide +kernel
theorem dX7_guardHears_92 : decode cX7_guardHears 92 = .ok (.aload_n 0, 1) := by decide +kernel
theorem dX7_guardHears_93 : decode cX7_guardHears 93 = .ok (.getfield 19, 3) := by decide +kernel
theorem dX7_guardHears_96 : decode cX7_guardHears 96 = .ok (.iload_n 1, 1) := by decide +kernel
theorem dX7_guardHears_97 : decode cX7_guardHears 97 = .ok (.iaload, 1) := by decide +kernel
theorem dX7_guardHears_98 : decode cX7_guardHears 98 = .ok (.aload_n 0, 1) := by decide +kernel
theorem dX7_guardHears_99 : decode cX7_guardHears 99 = .ok (.getfield 222, 3) := by decide +kernel
theorem dX7_guardHears_102 : decode cX7_guardHears 102 = .ok (.invokevirtual 154, 3) := by decide +kernel
theorem dX7_guardHears_105 : decode cX7_guardHears 105 = .ok (.return_, 1) := by decide +kernel
theorem dX7_switchHears_0 : decode cX7_switchHears 0 = .ok (.aload_n 0, 1) := by decide +kernel
theorem dX7_switchHears_1 : decode cX7_switchHears 1 = .ok (.dup, 1) := by decide +kernel
theorem dX7_switchHears_2 : decode cX7_switchHears 2 = .ok (.getfield 215, 3) := by decide +kernel
theorem dX7_switchHears_5 : decode cX7_switchHears 5 = .ok (.ldc2_w 241, 3) := by decide +kernel
theorem dX7_switchHears_8 : decode cX7_switchHears 8 = .ok (.ladd, 1) := by decide +kernel
theorem dX7_switchHears_9 : decode cX7_switchHears 9 = .ok (.putfield 215, 3) := by decide +kernel
theorem dX7_switchHears_12 : decode cX7_switchHears 12 = .ok (.aload_n 0, 1) := by decide +kernel
theorem dX7_switchHears_13 : decode cX7_switchHears 13 = .ok (.getfield 29, 3) := by decide +kernel
theorem dX7_switchHears_16 : decode cX7_switchHears 16 = .ok (.iload_n 1, 1) := by decide +kernel
theorem dX7_switchHears_17 : decode cX7_switchHears 17 = .ok (.baload, 1) := by decide +kernel
theorem dX7_switchHears_18 : decode cX7_switchHears 18 = .ok (.ifCond .eq 12, 3) := by decide +kernel
theorem dX7_switchHears_21 : decode cX7_switchHears 21 = .ok (.aload_n 0, 1) := by decide +kernel
theorem dX7_switchHears_22 : decode cX7_switchHears 22 = .ok (.iload_n 1, 1) := by decide +kernel
theorem dX7_switchHears_23 : decode cX7_switchHears 23 = .ok (.iconst 4, 1) := by decide +kernel
theorem dX7_switchHears_24 : decode cX7_switchHears 24 = .ok (.invokevirtual 225, 3) := by decide +kernel
theorem dX7_switchHears_27 : decode cX7_switchHears 27 = .ok (.goto 8, 3) := by decide +kernel
theorem dX7_switchHears_30 : decode cX7_switchHears 30 = .ok (.aload_n 0, 1) := by decide +kernel
theorem dX7_switchHears_31 : decode cX7_switchHears 31 = .ok (.iload_n 1, 1) := by decide +kernel
theorem dX7_switchHears_32 : decode cX7_switchHears 32 = .ok (.invokevirtual 243, 3) := by decide +kernel
theorem dX7_switchHears_35 : decode cX7_switchHears 35 = .ok (.return_, 1) := by decide +kernel
theorem dX7_holds_0 : decode cX7_holds 0 = .ok (.aload_n 0, 1) := by decide +kernel
theorem dX7_holds_1 : decode cX7_holds 1 = .ok (.getfield 56, 3) := by decide +kernel
theorem dX7_holds_4 : decode cX7_holds 4 = .ok (.aload_n 0, 1) := by decide +kernel
theorem dX7_holds_5 : decode cX7_holds 5 = .ok (.getfield 209, 3) := by decide +kernel
theorem dX7_holds_8 : decode cX7_holds 8 = .ok (.iconst 1, 1) := by decide +kernel
theorem dX7_holds_9 : decode cX7_holds 9 = .ok (.iastore, 1) := by decide +kernel
theorem dX7_holds_10 : decode cX7_holds 10 = .ok (.aload_n 0, 1) := by decide +kernel
theorem dX7_holds_11 : decode cX7_holds 11 = .ok (.getfield 71, 3) := by decide +kernel
theorem dX7_holds_14 : decode cX7_holds 14 = .ok (.aload_n 0, 1) := by decide +kernel
theorem dX7_holds_15 : decode cX7_holds 15 = .ok (.getfield 209, 3) := by decide +kernel
theorem dX7_holds_18 : decode cX7_holds 18 = .ok (.iload_n 1, 1) := by decide +kernel
theorem dX7_holds_19 : decode cX7_holds 19 = .ok (.iastore, 1) := by decide +kernel
theorem dX7_holds_20 : decode cX7_holds 20 = .ok (.aload_n 0, 1) := by decide +kernel
theorem dX7_holds_21 : decode cX7_holds 21 = .ok (.getfield 74, 3) := by decide +kernel
theorem dX7_holds_24 : decode cX7_holds 24 = .ok (.aload_n 0, 1) := by decide +kernel
theorem dX7_holds_25 : decode cX7_holds 25 = .ok (.getfield 209, 3) := by decide +kernel
theorem dX7_holds_28 : decode cX7_holds 28 = .ok (.aload_n 0, 1) := by decide +kernel
theorem dX7_holds_29 : decode cX7_holds 29 = .ok (.getfield 246, 3) := by decide +kernel
theorem dX7_holds_32 : decode cX7_holds 32 = .ok (.iastore, 1) := by decide +kernel
theorem dX7_holds_33 : decode cX7_holds 33 = .ok (.aload_n 0, 1) := by decide +kernel
theorem dX7_holds_34 : decode cX7_holds 34 = .ok (.dup, 1) := by decide +kernel
theorem dX7_holds_35 : decode cX7_holds 35 = .ok (.getfield 246, 3) := by decide +kernel
theorem dX7_holds_38 : decode cX7_holds 38 = .ok (.iconst 1, 1) := by decide +kernel
theorem dX7_holds_39 : decode cX7_holds 39 = .ok (.iadd, 1) := by decide +kernel
theorem dX7_holds_40 : decode cX7_holds 40 = .ok (.putfield 246, 3) := by decide +kernel
theorem dX7_holds_43 : decode cX7_holds 43 = .ok (.aload_n 0, 1) := by decide +kernel
theorem dX7_holds_44 : decode cX7_holds 44 = .ok (.getfield 32, 3) := by decide +kernel
theorem dX7_holds_47 : decode cX7_holds 47 = .ok (.iload_n 1, 1) := by decide +kernel
theorem dX7_holds_48 : decode cX7_holds 48 = .ok (.dup2, 1) := by decide +kernel
theorem dX7_holds_49 : decode cX7_holds 49 = .ok (.iaload, 1) := by decide +kernel
theorem dX7_holds_50 : decode cX7_holds 50 = .ok (.iconst 1, 1) := by decide +kernel
theorem dX7_holds_51 : decode cX7_holds 51 = .ok (.iadd, 1) := by decide +kernel
theorem dX7_holds_52 : decode cX7_holds 52 = .ok (.iastore, 1) := by decide +kernel
theorem dX7_holds_53 : decode cX7_holds 53 = .ok (.return_, 1) := by decide +kernel
theorem dX7_answersAll_0 : decode cX7_answersAll 0 = .ok (.aload_n 0, 1) := by decide +kernel
theorem dX7_answersAll_1 : decode cX7_answersAll 1 = .ok (.getfield 32, 3) := by decide +kernel
theorem dX7_answersAll_4 : decode cX7_answersAll 4 = .ok (.iload_n 1, 1) := by decide +kernel
theorem dX7_answersAll_5 : decode cX7_answersAll 5 = .ok (.iaload, 1) := by decide +kernel
theorem dX7_answersAll_6 : decode cX7_answersAll 6 = .ok (.istore_n 3, 1) := by decide +kernel
theorem dX7_answersAll_7 : decode cX7_answersAll 7 = .ok (.aload_n 0, 1) := by decide +kernel
theorem dX7_answersAll_8 : decode cX7_answersAll 8 = .ok (.getfield 32, 3) := by decide +kernel
theorem dX7_answersAll_11 : decode cX7_answersAll 11 = .ok (.iload_n 1, 1) := by decide +kernel
theorem dX7_answersAll_12 : decode cX7_answersAll 12 = .ok (.iconst 0, 1) := by decide +kernel
theorem dX7_answersAll_13 : decode cX7_answersAll 13 = .ok (.iastore, 1) := by decide +kernel
theorem dX7_answersAll_14 : decode cX7_answersAll 14 = .ok (.aload_n 0, 1) := by decide +kernel
theorem dX7_answersAll_15 : decode cX7_answersAll 15 = .ok (.iconst 1, 1) := by decide +kernel
theorem dX7_answersAll_16 : decode cX7_answersAll 16 = .ok (.iload_n 1, 1) := by decide +kernel
theorem dX7_answersAll_17 : decode cX7_answersAll 17 = .ok (.invokevirtual 199, 3) := by decide +kernel
theorem dX7_answersAll_20 : decode cX7_answersAll 20 = .ok (.istore 4, 2) := by decide +kernel
theorem dX7_answersAll_22 : decode cX7_answersAll 22 = .ok (.iload 4, 2) := by decide +kernel
theorem dX7_answersAll_24 : decode cX7_answersAll 24 = .ok (.ifCond .lt 28, 3) := by decide +kernel
theorem dX7_answersAll_27 : decode cX7_answersAll 27 = .ok (.aload_n 0, 1) := by decide +kernel
theorem dX7_answersAll_28 : decode cX7_answersAll 28 = .ok (.iload 4, 2) := by decide +kernel
theorem dX7_answersAll_30 : decode cX7_answersAll 30 = .ok (.aload_n 0, 1) := by decide +kernel
theorem dX7_answersAll_31 : decode cX7_answersAll 31 = .ok (.getfield 7, 3) := by decide +kernel
theorem dX7_answersAll_34 : decode cX7_answersAll 34 = .ok (.iload_n 1, 1) := by decide +kernel
theorem dX7_answersAll_35 : decode cX7_answersAll 35 = .ok (.iaload, 1) := by decide +kernel
theorem dX7_answersAll_36 : decode cX7_answersAll 36 = .ok (.iconst 1, 1) := by decide +kernel
theorem dX7_answersAll_37 : decode cX7_answersAll 37 = .ok (.iload_n 2, 1) := by decide +kernel
theorem dX7_answersAll_38 : decode cX7_answersAll 38 = .ok (.invokevirtual 185, 3) := by decide +kernel
theorem dX7_answersAll_41 : decode cX7_answersAll 41 = .ok (.aload_n 0, 1) := by decide +kernel
theorem dX7_answersAll_42 : decode cX7_answersAll 42 = .ok (.iconst 1, 1) := by decide +kernel
theorem dX7_answersAll_43 : decode cX7_answersAll 43 = .ok (.iload_n 1, 1) := by decide +kernel
theorem dX7_answersAll_44 : decode cX7_answersAll 44 = .ok (.invokevirtual 199, 3) := by decide +kernel
theorem dX7_answersAll_47 : decode cX7_answersAll 47 = .ok (.istore 4, 2) := by decide +kernel
theorem dX7_answersAll_49 : decode cX7_answersAll 49 = .ok (.goto (-27), 3) := by decide +kernel
theorem dX7_answersAll_52 : decode cX7_answersAll 52 = .ok (.iload_n 3, 1) := by decide +kernel
theorem dX7_answersAll_53 : decode cX7_answersAll 53 = .ok (.ireturn, 1) := by decide +kernel
theorem dX7_joiner_0 : decode cX7_joiner 0 = .ok (.aload_n 0, 1) := by decide +kernel
theorem dX7_joiner_1 : decode cX7_joiner 1 = .ok (.dup, 1) := by decide +kernel
theorem dX7_joiner_2 : decode cX7_joiner 2 = .ok (.getfield 215, 3) := by decide +kernel
theorem dX7_joiner_5 : decode cX7_joiner 5 = .ok (.ldc2_w 249, 3) := by decide +kernel
theorem dX7_joiner_8 : decode cX7_joiner 8 = .ok (.ladd, 1) := by decide +kernel
theorem dX7_joiner_9 : decode cX7_joiner 9 = .ok (.putfield 215, 3) := by decide +kernel
theorem dX7_joiner_12 : decode cX7_joiner 12 = .ok (.aload_n 0, 1) := by decide +kernel
theorem dX7_joiner_13 : decode cX7_joiner 13 = .ok (.getfield 219, 3) := by decide +kernel
theorem dX7_joiner_16 : decode cX7_joiner 16 = .ok (.bipush 6, 2) := by decide +kernel
theorem dX7_joiner_18 : decode cX7_joiner 18 = .ok (.if_icmp .ne 84, 3) := by decide +kernel
theorem dX7_joiner_21 : decode cX7_joiner 21 = .ok (.aload_n 0, 1) := by decide +kernel
theorem dX7_joiner_22 : decode cX7_joiner 22 = .ok (.iload_n 1, 1) := by decide +kernel
theorem dX7_joiner_23 : decode cX7_joiner 23 = .ok (.invokevirtual 251, 3) := by decide +kernel
theorem dX7_joiner_26 : decode cX7_joiner 26 = .ok (.aload_n 0, 1) := by decide +kernel
theorem dX7_joiner_27 : decode cX7_joiner 27 = .ok (.getfield 32, 3) := by decide +kernel
theorem dX7_joiner_30 : decode cX7_joiner 30 = .ok (.iload_n 1, 1) := by decide +kernel
theorem dX7_joiner_31 : decode cX7_joiner 31 = .ok (.iaload, 1) := by decide +kernel
theorem dX7_joiner_32 : decode cX7_joiner 32 = .ok (.aload_n 0, 1) := by decide +kernel
theorem dX7_joiner_33 : decode cX7_joiner 33 = .ok (.getfield 16, 3) := by decide +kernel
theorem dX7_joiner_36 : decode cX7_joiner 36 = .ok (.iload_n 1, 1) := by decide +kernel
theorem dX7_joiner_37 : decode cX7_joiner 37 = .ok (.iaload, 1) := by decide +kernel
theorem dX7_joiner_38 : decode cX7_joiner 38 = .ok (.if_icmp .lt 111, 3) := by decide +kernel
theorem dX7_joiner_41 : decode cX7_joiner 41 = .ok (.iconst 0, 1) := by decide +kernel
theorem dX7_joiner_42 : decode cX7_joiner 42 = .ok (.istore_n 2, 1) := by decide +kernel
theorem dX7_joiner_43 : decode cX7_joiner 43 = .ok (.iconst 0, 1) := by decide +kernel
theorem dX7_joiner_44 : decode cX7_joiner 44 = .ok (.istore_n 3, 1) := by decide +kernel
theorem dX7_joiner_45 : decode cX7_joiner 45 = .ok (.iload_n 3, 1) := by decide +kernel
theorem dX7_joiner_46 : decode cX7_joiner 46 = .ok (.aload_n 0, 1) := by decide +kernel
theorem dX7_joiner_47 : decode cX7_joiner 47 = .ok (.getfield 136, 3) := by decide +kernel
theorem dX7_joiner_50 : decode cX7_joiner 50 = .ok (.if_icmp .ge 42, 3) := by decide +kernel
theorem dX7_joiner_53 : decode cX7_joiner 53 = .ok (.iload_n 2, 1) := by decide +kernel
theorem dX7_joiner_54 : decode cX7_joiner 54 = .ok (.aload_n 0, 1) := by decide +kernel
theorem dX7_joiner_55 : decode cX7_joiner 55 = .ok (.getfield 56, 3) := by decide +kernel
theorem dX7_joiner_58 : decode cX7_joiner 58 = .ok (.iload_n 3, 1) := by decide +kernel
theorem dX7_joiner_59 : decode cX7_joiner 59 = .ok (.iaload, 1) := by decide +kernel
theorem dX7_joiner_60 : decode cX7_joiner 60 = .ok (.iconst 1, 1) := by decide +kernel
theorem dX7_joiner_61 : decode cX7_joiner 61 = .ok (.if_icmp .ne 22, 3) := by decide +kernel
theorem dX7_joiner_64 : decode cX7_joiner 64 = .ok (.aload_n 0, 1) := by decide +kernel
theorem dX7_joiner_65 : decode cX7_joiner 65 = .ok (.getfield 71, 3) := by decide +kernel
theorem dX7_joiner_68 : decode cX7_joiner 68 = .ok (.iload_n 3, 1) := by decide +kernel
theorem dX7_joiner_69 : decode cX7_joiner 69 = .ok (.iaload, 1) := by decide +kernel
theorem dX7_joiner_70 : decode cX7_joiner 70 = .ok (.iload_n 1, 1) := by decide +kernel
theorem dX7_joiner_71 : decode cX7_joiner 71 = .ok (.if_icmp .ne 12, 3) := by decide +kernel
theorem dX7_joiner_74 : decode cX7_joiner 74 = .ok (.aload_n 0, 1) := by decide +kernel
theorem dX7_joiner_75 : decode cX7_joiner 75 = .ok (.getfield 62, 3) := by decide +kernel
theorem dX7_joiner_78 : decode cX7_joiner 78 = .ok (.iload_n 3, 1) := by decide +kernel
theorem dX7_joiner_79 : decode cX7_joiner 79 = .ok (.iaload, 1) := by decide +kernel
theorem dX7_joiner_80 : decode cX7_joiner 80 = .ok (.goto 4, 3) := by decide +kernel
theorem dX7_joiner_83 : decode cX7_joiner 83 = .ok (.iconst 0, 1) := by decide +kernel
theorem dX7_joiner_84 : decode cX7_joiner 84 = .ok (.iadd, 1) := by decide +kernel
theorem dX7_joiner_85 : decode cX7_joiner 85 = .ok (.istore_n 2, 1) := by decide +kernel
theorem dX7_joiner_86 : decode cX7_joiner 86 = .ok (.iinc 3 1, 3) := by decide +kernel
theorem dX7_joiner_89 : decode cX7_joiner 89 = .ok (.goto (-44), 3) := by decide +kernel
theorem dX7_joiner_92 : decode cX7_joiner 92 = .ok (.aload_n 0, 1) := by decide +kernel
theorem dX7_joiner_93 : decode cX7_joiner 93 = .ok (.iload_n 1, 1) := by decide +kernel
theorem dX7_joiner_94 : decode cX7_joiner 94 = .ok (.iload_n 2, 1) := by decide +kernel
theorem dX7_joiner_95 : decode cX7_joiner 95 = .ok (.invokevirtual 254, 3) := by decide +kernel
theorem dX7_joiner_98 : decode cX7_joiner 98 = .ok (.istore_n 3, 1) := by decide +kernel
theorem dX7_joiner_99 : decode cX7_joiner 99 = .ok (.goto 50, 3) := by decide +kernel
theorem dX7_joiner_102 : decode cX7_joiner 102 = .ok (.aload_n 0, 1) := by decide +kernel
theorem dX7_joiner_103 : decode cX7_joiner 103 = .ok (.getfield 219, 3) := by decide +kernel
theorem dX7_joiner_106 : decode cX7_joiner 106 = .ok (.ifCond .ne 18, 3) := by decide +kernel
theorem dX7_joiner_109 : decode cX7_joiner 109 = .ok (.aload_n 0, 1) := by decide +kernel
theorem dX7_joiner_110 : decode cX7_joiner 110 = .ok (.iload_n 1, 1) := by decide +kernel
theorem dX7_joiner_111 : decode cX7_joiner 111 = .ok (.iconst 1, 1) := by decide +kernel
theorem dX7_joiner_112 : decode cX7_joiner 112 = .ok (.aload_n 0, 1) := by decide +kernel
theorem dX7_joiner_113 : decode cX7_joiner 113 = .ok (.getfield 32, 3) := by decide +kernel
theorem dX7_joiner_116 : decode cX7_joiner 116 = .ok (.iload_n 1, 1) := by decide +kernel
theorem dX7_joiner_117 : decode cX7_joiner 117 = .ok (.iaload, 1) := by decide +kernel
theorem dX7_joiner_118 : decode cX7_joiner 118 = .ok (.invokevirtual 212, 3) := by decide +kernel
theorem dX7_joiner_121 : decode cX7_joiner 121 = .ok (.goto 28, 3) := by decide +kernel
theorem dX7_joiner_124 : decode cX7_joiner 124 = .ok (.aload_n 0, 1) := by decide +kernel
theorem dX7_joiner_125 : decode cX7_joiner 125 = .ok (.getfield 219, 3) := by decide +kernel
theorem dX7_joiner_128 : decode cX7_joiner 128 = .ok (.bipush 7, 2) := by decide +kernel
theorem dX7_joiner_130 : decode cX7_joiner 130 = .ok (.if_icmp .ne 13, 3) := by decide +kernel
theorem dX7_joiner_133 : decode cX7_joiner 133 = .ok (.aload_n 0, 1) := by decide +kernel
theorem dX7_joiner_134 : decode cX7_joiner 134 = .ok (.iload_n 1, 1) := by decide +kernel
theorem dX7_joiner_135 : decode cX7_joiner 135 = .ok (.iconst 2, 1) := by decide +kernel
theorem dX7_joiner_136 : decode cX7_joiner 136 = .ok (.iload_n 1, 1) := by decide +kernel
theorem dX7_joiner_137 : decode cX7_joiner 137 = .ok (.invokevirtual 212, 3) := by decide +kernel
theorem dX7_joiner_140 : decode cX7_joiner 140 = .ok (.goto 9, 3) := by decide +kernel
theorem dX7_joiner_143 : decode cX7_joiner 143 = .ok (.aload_n 0, 1) := by decide +kernel
theorem dX7_joiner_144 : decode cX7_joiner 144 = .ok (.iload_n 1, 1) := by decide +kernel
theorem dX7_joiner_145 : decode cX7_joiner 145 = .ok (.iconst 3, 1) := by decide +kernel
theorem dX7_joiner_146 : decode cX7_joiner 146 = .ok (.invokevirtual 225, 3) := by decide +kernel
theorem dX7_joiner_149 : decode cX7_joiner 149 = .ok (.return_, 1) := by decide +kernel
theorem dX7_sleeper_0 : decode cX7_sleeper 0 = .ok (.aload_n 0, 1) := by decide +kernel
theorem dX7_sleeper_1 : decode cX7_sleeper 1 = .ok (.dup, 1) := by decide +kernel
theorem dX7_sleeper_2 : decode cX7_sleeper 2 = .ok (.getfield 215, 3) := by decide +kernel
theorem dX7_sleeper_5 : decode cX7_sleeper 5 = .ok (.ldc2_w 257, 3) := by decide +kernel
theorem dX7_sleeper_8 : decode cX7_sleeper 8 = .ok (.ladd, 1) := by decide +kernel
theorem dX7_sleeper_9 : decode cX7_sleeper 9 = .ok (.putfield 215, 3) := by decide +kernel
theorem dX7_sleeper_12 : decode cX7_sleeper 12 = .ok (.aload_n 0, 1) := by decide +kernel
theorem dX7_sleeper_13 : decode cX7_sleeper 13 = .ok (.getfield 219, 3) := by decide +kernel
theorem dX7_sleeper_16 : decode cX7_sleeper 16 = .ok (.bipush 6, 2) := by decide +kernel
theorem dX7_sleeper_18 : decode cX7_sleeper 18 = .ok (.if_icmp .ne 11, 3) := by decide +kernel
theorem dX7_sleeper_21 : decode cX7_sleeper 21 = .ok (.aload_n 0, 1) := by decide +kernel
theorem dX7_sleeper_22 : decode cX7_sleeper 22 = .ok (.iload_n 1, 1) := by decide +kernel
theorem dX7_sleeper_23 : decode cX7_sleeper 23 = .ok (.invokevirtual 251, 3) := by decide +kernel
theorem dX7_sleeper_26 : decode cX7_sleeper 26 = .ok (.goto 8, 3) := by decide +kernel
theorem dX7_sleeper_29 : decode cX7_sleeper 29 = .ok (.aload_n 0, 1) := by decide +kernel
theorem dX7_sleeper_30 : decode cX7_sleeper 30 = .ok (.iload_n 1, 1) := by decide +kernel
theorem dX7_sleeper_31 : decode cX7_sleeper 31 = .ok (.invokevirtual 259, 3) := by decide +kernel
theorem dX7_sleeper_34 : decode cX7_sleeper 34 = .ok (.return_, 1) := by decide +kernel
theorem dX7_hears_0 : decode cX7_hears 0 = .ok (.aload_n 0, 1) := by decide +kernel
theorem dX7_hears_1 : decode cX7_hears 1 = .ok (.dup, 1) := by decide +kernel
theorem dX7_hears_2 : decode cX7_hears 2 = .ok (.getfield 262, 3) := by decide +kernel
theorem dX7_hears_5 : decode cX7_hears 5 = .ok (.iconst 1, 1) := by decide +kernel
theorem dX7_hears_6 : decode cX7_hears 6 = .ok (.iadd, 1) := by decide +kernel
theorem dX7_hears_7 : decode cX7_hears 7 = .ok (.putfield 262, 3) := by decide +kernel
theorem dX7_hears_10 : decode cX7_hears 10 = .ok (.aload_n 0, 1) := by decide +kernel
theorem dX7_hears_11 : decode cX7_hears 11 = .ok (.getfield 13, 3) := by decide +kernel
theorem dX7_hears_14 : decode cX7_hears 14 = .ok (.iload_n 1, 1) := by decide +kernel
theorem dX7_hears_15 : decode cX7_hears 15 = .ok (.iaload, 1) := by decide +kernel
theorem dX7_hears_16 : decode cX7_hears 16 = .ok (.tableswitch 88 0 5 #[40, 48, 56, 64, 72, 80], 40) := by decide +kernel
theorem dX7_hears_56 : decode cX7_hears 56 = .ok (.aload_n 0, 1) := by decide +kernel
theorem dX7_hears_57 : decode cX7_hears 57 = .ok (.iload_n 1, 1) := by decide +kernel
theorem dX7_hears_58 : decode cX7_hears 58 = .ok (.invokevirtual 234, 3) := by decide +kernel
theorem dX7_hears_61 : decode cX7_hears 61 = .ok (.goto 48, 3) := by decide +kernel
theorem dX7_hears_64 : decode cX7_hears 64 = .ok (.aload_n 0, 1) := by decide +kernel
theorem dX7_hears_65 : decode cX7_hears 65 = .ok (.iload_n 1, 1) := by decide +kernel
theorem dX7_hears_66 : decode cX7_hears 66 = .ok (.invokevirtual 265, 3) := by decide +kernel
theorem dX7_hears_69 : decode cX7_hears 69 = .ok (.goto 40, 3) := by decide +kernel
theorem dX7_hears_72 : decode cX7_hears 72 = .ok (.aload_n 0, 1) := by decide +kernel
theorem dX7_hears_73 : decode cX7_hears 73 = .ok (.iload_n 1, 1) := by decide +kernel
theorem dX7_hears_74 : decode cX7_hears 74 = .ok (.invokevirtual 268, 3) := by decide +kernel
theorem dX7_hears_77 : decode cX7_hears 77 = .ok (.goto 32, 3) := by decide +kernel
theorem dX7_hears_80 : decode cX7_hears 80 = .ok (.aload_n 0, 1) := by decide +kernel
theorem dX7_hears_81 : decode cX7_hears 81 = .ok (.iload_n 1, 1) := by decide +kernel
theorem dX7_hears_82 : decode cX7_hears 82 = .ok (.invokevirtual 243, 3) := by decide +kernel
theorem dX7_hears_85 : decode cX7_hears 85 = .ok (.goto 24, 3) := by decide +kernel
theorem dX7_hears_88 : decode cX7_hears 88 = .ok (.aload_n 0, 1) := by decide +kernel
theorem dX7_hears_89 : decode cX7_hears 89 = .ok (.iload_n 1, 1) := by decide +kernel
theorem dX7_hears_90 : decode cX7_hears 90 = .ok (.invokevirtual 271, 3) := by decide +kernel
theorem dX7_hears_93 : decode cX7_hears 93 = .ok (.goto 16, 3) := by decide +kernel
theorem dX7_hears_96 : decode cX7_hears 96 = .ok (.aload_n 0, 1) := by decide +kernel
theorem dX7_hears_97 : decode cX7_hears 97 = .ok (.iload_n 1, 1) := by decide +kernel
theorem dX7_hears_98 : decode cX7_hears 98 = .ok (.invokevirtual 259, 3) := by decide +kernel
theorem dX7_hears_101 : decode cX7_hears 101 = .ok (.goto 8, 3) := by decide +kernel
theorem dX7_hears_104 : decode cX7_hears 104 = .ok (.aload_n 0, 1) := by decide +kernel
theorem dX7_hears_105 : decode cX7_hears 105 = .ok (.iload_n 1, 1) := by decide +kernel
theorem dX7_hears_106 : decode cX7_hears 106 = .ok (.invokevirtual 274, 3) := by decide +kernel
theorem dX7_hears_109 : decode cX7_hears 109 = .ok (.return_, 1) := by decide +kernel
theorem dX7_wake_0 : decode cX7_wake 0 = .ok (.aload_n 0, 1) := by decide +kernel
theorem dX7_wake_1 : decode cX7_wake 1 = .ok (.iload_n 1, 1) := by decide +kernel
theorem dX7_wake_2 : decode cX7_wake 2 = .ok (.invokevirtual 143, 3) := by decide +kernel
theorem dX7_wake_5 : decode cX7_wake 5 = .ok (.ifCond .eq 14, 3) := by decide +kernel
theorem dX7_wake_8 : decode cX7_wake 8 = .ok (.aload_n 0, 1) := by decide +kernel
theorem dX7_wake_9 : decode cX7_wake 9 = .ok (.getfield 13, 3) := by decide +kernel
theorem dX7_wake_12 : decode cX7_wake 12 = .ok (.iload_n 1, 1) := by decide +kernel
theorem dX7_wake_13 : decode cX7_wake 13 = .ok (.iaload, 1) := by decide +kernel
theorem dX7_wake_14 : decode cX7_wake 14 = .ok (.bipush 6, 2) := by decide +kernel
theorem dX7_wake_16 : decode cX7_wake 16 = .ok (.if_icmp .eq 5, 3) := by decide +kernel
theorem dX7_wake_19 : decode cX7_wake 19 = .ok (.iconst (-1), 1) := by decide +kernel
theorem dX7_wake_20 : decode cX7_wake 20 = .ok (.ireturn, 1) := by decide +kernel
theorem dX7_wake_21 : decode cX7_wake 21 = .ok (.aload_n 0, 1) := by decide +kernel
theorem dX7_wake_22 : decode cX7_wake 22 = .ok (.iload_n 1, 1) := by decide +kernel
theorem dX7_wake_23 : decode cX7_wake 23 = .ok (.iload_n 2, 1) := by decide +kernel
theorem dX7_wake_24 : decode cX7_wake 24 = .ok (.invokevirtual 254, 3) := by decide +kernel
theorem dX7_wake_27 : decode cX7_wake 27 = .ok (.istore_n 3, 1) := by decide +kernel
theorem dX7_wake_28 : decode cX7_wake 28 = .ok (.aload_n 0, 1) := by decide +kernel
theorem dX7_wake_29 : decode cX7_wake 29 = .ok (.invokevirtual 277, 3) := by decide +kernel
theorem dX7_wake_32 : decode cX7_wake 32 = .ok (.iload_n 3, 1) := by decide +kernel
theorem dX7_wake_33 : decode cX7_wake 33 = .ok (.ireturn, 1) := by decide +kernel
theorem dX7_isOf_0 : decode cX7_isOf 0 = .ok (.aload_n 0, 1) := by decide +kernel
theorem dX7_isOf_1 : decode cX7_isOf 1 = .ok (.getfield 35, 3) := by decide +kernel
theorem dX7_isOf_4 : decode cX7_isOf 4 = .ok (.iload_n 1, 1) := by decide +kernel
theorem dX7_isOf_5 : decode cX7_isOf 5 = .ok (.iaload, 1) := by decide +kernel
theorem dX7_isOf_6 : decode cX7_isOf 6 = .ok (.iload_n 2, 1) := by decide +kernel
theorem dX7_isOf_7 : decode cX7_isOf 7 = .ok (.if_icmp .eq 13, 3) := by decide +kernel
theorem dX7_isOf_10 : decode cX7_isOf 10 = .ok (.aload_n 0, 1) := by decide +kernel
theorem dX7_isOf_11 : decode cX7_isOf 11 = .ok (.getfield 38, 3) := by decide +kernel
theorem dX7_isOf_14 : decode cX7_isOf 14 = .ok (.iload_n 1, 1) := by decide +kernel
theorem dX7_isOf_15 : decode cX7_isOf 15 = .ok (.iaload, 1) := by decide +kernel
theorem dX7_isOf_16 : decode cX7_isOf 16 = .ok (.iload_n 2, 1) := by decide +kernel
theorem dX7_isOf_17 : decode cX7_isOf 17 = .ok (.if_icmp .ne 7, 3) := by decide +kernel
theorem dX7_isOf_20 : decode cX7_isOf 20 = .ok (.iconst 1, 1) := by decide +kernel
theorem dX7_isOf_21 : decode cX7_isOf 21 = .ok (.goto 4, 3) := by decide +kernel
theorem dX7_isOf_24 : decode cX7_isOf 24 = .ok (.iconst 0, 1) := by decide +kernel
theorem dX7_isOf_25 : decode cX7_isOf 25 = .ok (.ireturn, 1) := by decide +kernel
theorem dX7_ask_0 : decode cX7_ask 0 = .ok (.iload_n 2, 1) := by decide +kernel
theorem dX7_ask_1 : decode cX7_ask 1 = .ok (.ifCond .ne 11, 3) := by decide +kernel
theorem dX7_ask_4 : decode cX7_ask 4 = .ok (.aload_n 0, 1) := by decide +kernel
theorem dX7_ask_5 : decode cX7_ask 5 = .ok (.iload_n 3, 1) := by decide +kernel
theorem dX7_ask_6 : decode cX7_ask 6 = .ok (.invokevirtual 143, 3) := by decide +kernel
theorem dX7_ask_9 : decode cX7_ask 9 = .ok (.goto 21, 3) := by decide +kernel
theorem dX7_ask_12 : decode cX7_ask 12 = .ok (.iload_n 2, 1) := by decide +kernel
theorem dX7_ask_13 : decode cX7_ask 13 = .ok (.iconst 1, 1) := by decide +kernel
theorem dX7_ask_14 : decode cX7_ask 14 = .ok (.if_icmp .ne 15, 3) := by decide +kernel
theorem dX7_ask_17 : decode cX7_ask 17 = .ok (.aload_n 0, 1) := by decide +kernel
theorem dX7_ask_18 : decode cX7_ask 18 = .ok (.iload_n 3, 1) := by decide +kernel
theorem dX7_ask_19 : decode cX7_ask 19 = .ok (.invokevirtual 280, 3) := by decide +kernel
theorem dX7_ask_22 : decode cX7_ask 22 = .ok (.ifCond .eq 7, 3) := by decide +kernel
theorem dX7_ask_25 : decode cX7_ask 25 = .ok (.iconst 1, 1) := by decide +kernel
theorem dX7_ask_26 : decode cX7_ask 26 = .ok (.goto 4, 3) := by decide +kernel
theorem dX7_ask_29 : decode cX7_ask 29 = .ok (.iconst 0, 1) := by decide +kernel
theorem dX7_ask_30 : decode cX7_ask 30 = .ok (.istore 7, 2) := by decide +kernel
theorem dX7_ask_32 : decode cX7_ask 32 = .ok (.iload_n 1, 1) := by decide +kernel
theorem dX7_ask_33 : decode cX7_ask 33 = .ok (.iconst 0, 1) := by decide +kernel
theorem dX7_ask_34 : decode cX7_ask 34 = .ok (.iconst 3, 1) := by decide +kernel
theorem dX7_ask_35 : decode cX7_ask 35 = .ok (.invokestatic 132, 3) := by decide +kernel
theorem dX7_ask_38 : decode cX7_ask 38 = .ok (.ifCond .eq 34, 3) := by decide +kernel
theorem dX7_ask_41 : decode cX7_ask 41 = .ok (.iload 7, 2) := by decide +kernel
theorem dX7_ask_43 : decode cX7_ask 43 = .ok (.ifCond .eq 29, 3) := by decide +kernel
theorem dX7_ask_46 : decode cX7_ask 46 = .ok (.iload 4, 2) := by decide +kernel
theorem dX7_ask_48 : decode cX7_ask 48 = .ok (.iconst 0, 1) := by decide +kernel
theorem dX7_ask_49 : decode cX7_ask 49 = .ok (.bipush 7, 2) := by decide +kernel
theorem dX7_ask_51 : decode cX7_ask 51 = .ok (.invokestatic 132, 3) := by decide +kernel
theorem dX7_ask_54 : decode cX7_ask 54 = .ok (.ifCond .eq 18, 3) := by decide +kernel
theorem dX7_ask_57 : decode cX7_ask 57 = .ok (.iload 4, 2) := by decide +kernel
theorem dX7_ask_59 : decode cX7_ask 59 = .ok (.iconst 4, 1) := by decide +kernel
theorem dX7_ask_60 : decode cX7_ask 60 = .ok (.if_icmp .ne 14, 3) := by decide +kernel
theorem dX7_ask_63 : decode cX7_ask 63 = .ok (.aload_n 0, 1) := by decide +kernel
theorem dX7_ask_64 : decode cX7_ask 64 = .ok (.iload 6, 2) := by decide +kernel
theorem dX7_ask_66 : decode cX7_ask 66 = .ok (.invokevirtual 143, 3) := by decide +kernel
theorem dX7_ask_69 : decode cX7_ask 69 = .ok (.ifCond .ne 5, 3) := by decide +kernel
theorem dX7_ask_72 : decode cX7_ask 72 = .ok (.iconst (-1), 1) := by decide +kernel
theorem dX7_ask_73 : decode cX7_ask 73 = .ok (.ireturn, 1) := by decide +kernel
theorem dX7_ask_74 : decode cX7_ask 74 = .ok (.iload_n 2, 1) := by decide +kernel
theorem dX7_ask_75 : decode cX7_ask 75 = .ok (.iconst 1, 1) := by decide +kernel
theorem dX7_ask_76 : decode cX7_ask 76 = .ok (.if_icmp .ne 15, 3) := by decide +kernel
theorem dX7_ask_79 : decode cX7_ask 79 = .ok (.aload_n 0, 1) := by decide +kernel
theorem dX7_ask_80 : decode cX7_ask 80 = .ok (.iload_n 3, 1) := by decide +kernel
theorem dX7_ask_81 : decode cX7_ask 81 = .ok (.iload_n 1, 1) := by decide +kernel
theorem dX7_ask_82 : decode cX7_ask 82 = .ok (.invokevirtual 283, 3) := by decide +kernel
theorem dX7_ask_85 : decode cX7_ask 85 = .ok (.ifCond .ne 6, 3) := by decide +kernel
theorem dX7_ask_88 : decode cX7_ask 88 = .ok (.bipush (-2), 2) := by decide +kernel
theorem dX7_ask_90 : decode cX7_ask 90 = .ok (.ireturn, 1) := by decide +kernel
theorem dX7_ask_91 : decode cX7_ask 91 = .ok (.aload_n 0, 1) := by decide +kernel
theorem dX7_ask_92 : decode cX7_ask 92 = .ok (.getfield 136, 3) := by decide +kernel
theorem dX7_ask_95 : decode cX7_ask 95 = .ok (.bipush 100, 2) := by decide +kernel
theorem dX7_ask_97 : decode cX7_ask 97 = .ok (.if_icmp .ne 6, 3) := by decide +kernel
theorem dX7_ask_100 : decode cX7_ask 100 = .ok (.bipush (-3), 2) := by decide +kernel
theorem dX7_ask_102 : decode cX7_ask 102 = .ok (.ireturn, 1) := by decide +kernel
theorem dX7_ask_103 : decode cX7_ask 103 = .ok (.aload_n 0, 1) := by decide +kernel
theorem dX7_ask_104 : decode cX7_ask 104 = .ok (.getfield 136, 3) := by decide +kernel
theorem dX7_ask_107 : decode cX7_ask 107 = .ok (.istore 8, 2) := by decide +kernel
theorem dX7_ask_109 : decode cX7_ask 109 = .ok (.aload_n 0, 1) := by decide +kernel
theorem dX7_ask_110 : decode cX7_ask 110 = .ok (.dup, 1) := by decide +kernel
theorem dX7_ask_111 : decode cX7_ask 111 = .ok (.getfield 136, 3) := by decide +kernel
theorem dX7_ask_114 : decode cX7_ask 114 = .ok (.iconst 1, 1) := by decide +kernel
theorem dX7_ask_115 : decode cX7_ask 115 = .ok (.iadd, 1) := by decide +kernel
theorem dX7_ask_116 : decode cX7_ask 116 = .ok (.putfield 136, 3) := by decide +kernel
theorem dX7_ask_119 : decode cX7_ask 119 = .ok (.aload_n 0, 1) := by decide +kernel
theorem dX7_ask_120 : decode cX7_ask 120 = .ok (.getfield 35, 3) := by decide +kernel
theorem dX7_ask_123 : decode cX7_ask 123 = .ok (.iload 8, 2) := by decide +kernel
theorem dX7_ask_125 : decode cX7_ask 125 = .ok (.iload_n 1, 1) := by decide +kernel
theorem dX7_ask_126 : decode cX7_ask 126 = .ok (.iastore, 1) := by decide +kernel
theorem dX7_ask_127 : decode cX7_ask 127 = .ok (.aload_n 0, 1) := by decide +kernel
theorem dX7_ask_128 : decode cX7_ask 128 = .ok (.getfield 38, 3) := by decide +kernel
theorem dX7_ask_131 : decode cX7_ask 131 = .ok (.iload 8, 2) := by decide +kernel
theorem dX7_ask_133 : decode cX7_ask 133 = .ok (.iload_n 2, 1) := by decide +kernel
theorem dX7_ask_134 : decode cX7_ask 134 = .ok (.ifCond .ne 12, 3) := by decide +kernel
theorem dX7_ask_137 : decode cX7_ask 137 = .ok (.aload_n 0, 1) := by decide +kernel
theorem dX7_ask_138 : decode cX7_ask 138 = .ok (.getfield 7, 3) := by decide +kernel
theorem dX7_ask_141 : decode cX7_ask 141 = .ok (.iload_n 3, 1) := by decide +kernel
theorem dX7_ask_142 : decode cX7_ask 142 = .ok (.iaload, 1) := by decide +kernel
theorem dX7_ask_143 : decode cX7_ask 143 = .ok (.goto 9, 3) := by decide +kernel
theorem dX7_ask_146 : decode cX7_ask 146 = .ok (.aload_n 0, 1) := by decide +kernel
theorem dX7_ask_147 : decode cX7_ask 147 = .ok (.getfield 38, 3) := by decide +kernel
theorem dX7_ask_150 : decode cX7_ask 150 = .ok (.iload_n 3, 1) := by decide +kernel
theorem dX7_ask_151 : decode cX7_ask 151 = .ok (.iaload, 1) := by decide +kernel
theorem dX7_ask_152 : decode cX7_ask 152 = .ok (.iastore, 1) := by decide +kernel
theorem dX7_ask_153 : decode cX7_ask 153 = .ok (.aload_n 0, 1) := by decide +kernel
theorem dX7_ask_154 : decode cX7_ask 154 = .ok (.getfield 41, 3) := by decide +kernel
theorem dX7_ask_157 : decode cX7_ask 157 = .ok (.iload 8, 2) := by decide +kernel
theorem dX7_ask_159 : decode cX7_ask 159 = .ok (.iconst 0, 1) := by decide +kernel
theorem dX7_ask_160 : decode cX7_ask 160 = .ok (.iastore, 1) := by decide +kernel
theorem dX7_ask_161 : decode cX7_ask 161 = .ok (.aload_n 0, 1) := by decide +kernel
theorem dX7_ask_162 : decode cX7_ask 162 = .ok (.getfield 44, 3) := by decide +kernel
theorem dX7_ask_165 : decode cX7_ask 165 = .ok (.iload 8, 2) := by decide +kernel
theorem dX7_ask_167 : decode cX7_ask 167 = .ok (.iconst 0, 1) := by decide +kernel
theorem dX7_ask_168 : decode cX7_ask 168 = .ok (.iastore, 1) := by decide +kernel
theorem dX7_ask_169 : decode cX7_ask 169 = .ok (.aload_n 0, 1) := by decide +kernel
theorem dX7_ask_170 : decode cX7_ask 170 = .ok (.getfield 47, 3) := by decide +kernel
theorem dX7_ask_173 : decode cX7_ask 173 = .ok (.iload 8, 2) := by decide +kernel
theorem dX7_ask_175 : decode cX7_ask 175 = .ok (.iconst 0, 1) := by decide +kernel
theorem dX7_ask_176 : decode cX7_ask 176 = .ok (.iastore, 1) := by decide +kernel
theorem dX7_ask_177 : decode cX7_ask 177 = .ok (.aload_n 0, 1) := by decide +kernel
theorem dX7_ask_178 : decode cX7_ask 178 = .ok (.getfield 50, 3) := by decide +kernel
theorem dX7_ask_181 : decode cX7_ask 181 = .ok (.iload 8, 2) := by decide +kernel
theorem dX7_ask_183 : decode cX7_ask 183 = .ok (.iconst 0, 1) := by decide +kernel
theorem dX7_ask_184 : decode cX7_ask 184 = .ok (.iastore, 1) := by decide +kernel
theorem dX7_ask_185 : decode cX7_ask 185 = .ok (.aload_n 0, 1) := by decide +kernel
theorem dX7_ask_186 : decode cX7_ask 186 = .ok (.getfield 53, 3) := by decide +kernel
theorem dX7_ask_189 : decode cX7_ask 189 = .ok (.iload 8, 2) := by decide +kernel
theorem dX7_ask_191 : decode cX7_ask 191 = .ok (.iconst 0, 1) := by decide +kernel
theorem dX7_ask_192 : decode cX7_ask 192 = .ok (.iastore, 1) := by decide +kernel
theorem dX7_ask_193 : decode cX7_ask 193 = .ok (.aload_n 0, 1) := by decide +kernel
theorem dX7_ask_194 : decode cX7_ask 194 = .ok (.getfield 59, 3) := by decide +kernel
theorem dX7_ask_197 : decode cX7_ask 197 = .ok (.iload 8, 2) := by decide +kernel
theorem dX7_ask_199 : decode cX7_ask 199 = .ok (.iload 4, 2) := by decide +kernel
theorem dX7_ask_201 : decode cX7_ask 201 = .ok (.iastore, 1) := by decide +kernel
theorem dX7_ask_202 : decode cX7_ask 202 = .ok (.aload_n 0, 1) := by decide +kernel
theorem dX7_ask_203 : decode cX7_ask 203 = .ok (.getfield 62, 3) := by decide +kernel
theorem dX7_ask_206 : decode cX7_ask 206 = .ok (.iload 8, 2) := by decide +kernel
theorem dX7_ask_208 : decode cX7_ask 208 = .ok (.iload 5, 2) := by decide +kernel
theorem dX7_ask_210 : decode cX7_ask 210 = .ok (.iastore, 1) := by decide +kernel
theorem dX7_ask_211 : decode cX7_ask 211 = .ok (.aload_n 0, 1) := by decide +kernel
theorem dX7_ask_212 : decode cX7_ask 212 = .ok (.getfield 65, 3) := by decide +kernel
theorem dX7_ask_215 : decode cX7_ask 215 = .ok (.iload 8, 2) := by decide +kernel
theorem dX7_ask_217 : decode cX7_ask 217 = .ok (.iload 6, 2) := by decide +kernel
theorem dX7_ask_219 : decode cX7_ask 219 = .ok (.iastore, 1) := by decide +kernel
theorem dX7_ask_220 : decode cX7_ask 220 = .ok (.aload_n 0, 1) := by decide +kernel
theorem dX7_ask_221 : decode cX7_ask 221 = .ok (.getfield 68, 3) := by decide +kernel
theorem dX7_ask_224 : decode cX7_ask 224 = .ok (.iload 8, 2) := by decide +kernel
theorem dX7_ask_226 : decode cX7_ask 226 = .ok (.iconst (-1), 1) := by decide +kernel
theorem dX7_ask_227 : decode cX7_ask 227 = .ok (.iastore, 1) := by decide +kernel
theorem dX7_ask_228 : decode cX7_ask 228 = .ok (.aload_n 0, 1) := by decide +kernel
theorem dX7_ask_229 : decode cX7_ask 229 = .ok (.iload 8, 2) := by decide +kernel
theorem dX7_ask_231 : decode cX7_ask 231 = .ok (.iload_n 1, 1) := by decide +kernel
theorem dX7_ask_232 : decode cX7_ask 232 = .ok (.aload_n 0, 1) := by decide +kernel
theorem dX7_ask_233 : decode cX7_ask 233 = .ok (.getfield 38, 3) := by decide +kernel
theorem dX7_ask_236 : decode cX7_ask 236 = .ok (.iload 8, 2) := by decide +kernel
theorem dX7_ask_238 : decode cX7_ask 238 = .ok (.iaload, 1) := by decide +kernel
theorem dX7_ask_239 : decode cX7_ask 239 = .ok (.iload_n 2, 1) := by decide +kernel
theorem dX7_ask_240 : decode cX7_ask 240 = .ok (.ifCond .ne 7, 3) := by decide +kernel
theorem dX7_ask_243 : decode cX7_ask 243 = .ok (.iload_n 3, 1) := by decide +kernel
theorem dX7_ask_244 : decode cX7_ask 244 = .ok (.goto 5, 3) := by decide +kernel
theorem dX7_ask_247 : decode cX7_ask 247 = .ok (.bipush (-9), 2) := by decide +kernel
theorem dX7_ask_249 : decode cX7_ask 249 = .ok (.iload_n 2, 1) := by decide +kernel
theorem dX7_ask_250 : decode cX7_ask 250 = .ok (.ifCond .ne 8, 3) := by decide +kernel
theorem dX7_ask_253 : decode cX7_ask 253 = .ok (.bipush (-9), 2) := by decide +kernel
theorem dX7_ask_255 : decode cX7_ask 255 = .ok (.goto 4, 3) := by decide +kernel
theorem dX7_ask_258 : decode cX7_ask 258 = .ok (.iload_n 3, 1) := by decide +kernel
theorem dX7_ask_259 : decode cX7_ask 259 = .ok (.invokevirtual 192, 3) := by decide +kernel
theorem dX7_ask_262 : decode cX7_ask 262 = .ok (.aload_n 0, 1) := by decide +kernel
theorem dX7_ask_263 : decode cX7_ask 263 = .ok (.invokevirtual 277, 3) := by decide +kernel
theorem dX7_ask_266 : decode cX7_ask 266 = .ok (.iload 8, 2) := by decide +kernel
theorem dX7_ask_268 : decode cX7_ask 268 = .ok (.ireturn, 1) := by decide +kernel
theorem dX7_stateIn_0 : decode cX7_stateIn 0 = .ok (.aload_n 0, 1) := by decide +kernel
theorem dX7_stateIn_1 : decode cX7_stateIn 1 = .ok (.getfield 38, 3) := by decide +kernel
theorem dX7_stateIn_4 : decode cX7_stateIn 4 = .ok (.iload_n 1, 1) := by decide +kernel
theorem dX7_stateIn_5 : decode cX7_stateIn 5 = .ok (.iaload, 1) := by decide +kernel
theorem dX7_stateIn_6 : decode cX7_stateIn 6 = .ok (.iload_n 2, 1) := by decide +kernel
theorem dX7_stateIn_7 : decode cX7_stateIn 7 = .ok (.if_icmp .ne 12, 3) := by decide +kernel
theorem dX7_stateIn_10 : decode cX7_stateIn 10 = .ok (.aload_n 0, 1) := by decide +kernel
theorem dX7_stateIn_11 : decode cX7_stateIn 11 = .ok (.getfield 41, 3) := by decide +kernel
theorem dX7_stateIn_14 : decode cX7_stateIn 14 = .ok (.iload_n 1, 1) := by decide +kernel
theorem dX7_stateIn_15 : decode cX7_stateIn 15 = .ok (.iaload, 1) := by decide +kernel
theorem dX7_stateIn_16 : decode cX7_stateIn 16 = .ok (.goto 9, 3) := by decide +kernel
theorem dX7_stateIn_19 : decode cX7_stateIn 19 = .ok (.aload_n 0, 1) := by decide +kernel
theorem dX7_stateIn_20 : decode cX7_stateIn 20 = .ok (.getfield 47, 3) := by decide +kernel
theorem dX7_stateIn_23 : decode cX7_stateIn 23 = .ok (.iload_n 1, 1) := by decide +kernel
theorem dX7_stateIn_24 : decode cX7_stateIn 24 = .ok (.iaload, 1) := by decide +kernel
theorem dX7_stateIn_25 : decode cX7_stateIn 25 = .ok (.ireturn, 1) := by decide +kernel
theorem dX7_valueIn_0 : decode cX7_valueIn 0 = .ok (.aload_n 0, 1) := by decide +kernel
theorem dX7_valueIn_1 : decode cX7_valueIn 1 = .ok (.getfield 38, 3) := by decide +kernel
theorem dX7_valueIn_4 : decode cX7_valueIn 4 = .ok (.iload_n 1, 1) := by decide +kernel
theorem dX7_valueIn_5 : decode cX7_valueIn 5 = .ok (.iaload, 1) := by decide +kernel
theorem dX7_valueIn_6 : decode cX7_valueIn 6 = .ok (.iload_n 2, 1) := by decide +kernel
theorem dX7_valueIn_7 : decode cX7_valueIn 7 = .ok (.if_icmp .ne 12, 3) := by decide +kernel
theorem dX7_valueIn_10 : decode cX7_valueIn 10 = .ok (.aload_n 0, 1) := by decide +kernel
theorem dX7_valueIn_11 : decode cX7_valueIn 11 = .ok (.getfield 44, 3) := by decide +kernel
theorem dX7_valueIn_14 : decode cX7_valueIn 14 = .ok (.iload_n 1, 1) := by decide +kernel
theorem dX7_valueIn_15 : decode cX7_valueIn 15 = .ok (.iaload, 1) := by decide +kernel
theorem dX7_valueIn_16 : decode cX7_valueIn 16 = .ok (.goto 9, 3) := by decide +kernel
theorem dX7_valueIn_19 : decode cX7_valueIn 19 = .ok (.aload_n 0, 1) := by decide +kernel
theorem dX7_valueIn_20 : decode cX7_valueIn 20 = .ok (.getfield 50, 3) := by decide +kernel
theorem dX7_valueIn_23 : decode cX7_valueIn 23 = .ok (.iload_n 1, 1) := by decide +kernel
theorem dX7_valueIn_24 : decode cX7_valueIn 24 = .ok (.iaload, 1) := by decide +kernel
theorem dX7_valueIn_25 : decode cX7_valueIn 25 = .ok (.ireturn, 1) := by decide +kernel
theorem dX7_when_0 : decode cX7_when 0 = .ok (.iload_n 1, 1) := by decide +kernel
theorem dX7_when_1 : decode cX7_when 1 = .ok (.iconst 0, 1) := by decide +kernel
theorem dX7_when_2 : decode cX7_when 2 = .ok (.iconst 3, 1) := by decide +kernel
theorem dX7_when_3 : decode cX7_when 3 = .ok (.invokestatic 132, 3) := by decide +kernel
theorem dX7_when_6 : decode cX7_when 6 = .ok (.ifCond .eq 29, 3) := by decide +kernel
theorem dX7_when_9 : decode cX7_when 9 = .ok (.aload_n 0, 1) := by decide +kernel
theorem dX7_when_10 : decode cX7_when 10 = .ok (.iload_n 2, 1) := by decide +kernel
theorem dX7_when_11 : decode cX7_when 11 = .ok (.invokevirtual 280, 3) := by decide +kernel
theorem dX7_when_14 : decode cX7_when 14 = .ok (.ifCond .eq 21, 3) := by decide +kernel
theorem dX7_when_17 : decode cX7_when 17 = .ok (.aload_n 0, 1) := by decide +kernel
theorem dX7_when_18 : decode cX7_when 18 = .ok (.iload_n 3, 1) := by decide +kernel
theorem dX7_when_19 : decode cX7_when 19 = .ok (.invokevirtual 143, 3) := by decide +kernel
theorem dX7_when_22 : decode cX7_when 22 = .ok (.ifCond .eq 13, 3) := by decide +kernel
theorem dX7_when_25 : decode cX7_when 25 = .ok (.aload_n 0, 1) := by decide +kernel
theorem dX7_when_26 : decode cX7_when 26 = .ok (.getfield 7, 3) := by decide +kernel
theorem dX7_when_29 : decode cX7_when 29 = .ok (.iload_n 3, 1) := by decide +kernel
theorem dX7_when_30 : decode cX7_when 30 = .ok (.iaload, 1) := by decide +kernel
theorem dX7_when_31 : decode cX7_when 31 = .ok (.iload_n 1, 1) := by decide +kernel
theorem dX7_when_32 : decode cX7_when 32 = .ok (.if_icmp .eq 5, 3) := by decide +kernel
theorem dX7_when_35 : decode cX7_when 35 = .ok (.iconst (-1), 1) := by decide +kernel
theorem dX7_when_36 : decode cX7_when 36 = .ok (.ireturn, 1) := by decide +kernel
theorem dX7_when_37 : decode cX7_when 37 = .ok (.aload_n 0, 1) := by decide +kernel
theorem dX7_when_38 : decode cX7_when 38 = .ok (.iload_n 2, 1) := by decide +kernel
theorem dX7_when_39 : decode cX7_when 39 = .ok (.iload_n 1, 1) := by decide +kernel
theorem dX7_when_40 : decode cX7_when 40 = .ok (.invokevirtual 283, 3) := by decide +kernel
theorem dX7_when_43 : decode cX7_when 43 = .ok (.ifCond .ne 6, 3) := by decide +kernel
theorem dX7_when_46 : decode cX7_when 46 = .ok (.bipush (-2), 2) := by decide +kernel
theorem dX7_when_48 : decode cX7_when 48 = .ok (.ireturn, 1) := by decide +kernel
theorem dX7_when_49 : decode cX7_when 49 = .ok (.aload_n 0, 1) := by decide +kernel
theorem dX7_when_50 : decode cX7_when 50 = .ok (.getfield 158, 3) := by decide +kernel
theorem dX7_when_53 : decode cX7_when 53 = .ok (.bipush 40, 2) := by decide +kernel
theorem dX7_when_55 : decode cX7_when 55 = .ok (.if_icmp .ne 6, 3) := by decide +kernel
theorem dX7_when_58 : decode cX7_when 58 = .ok (.bipush (-3), 2) := by decide +kernel
theorem dX7_when_60 : decode cX7_when 60 = .ok (.ireturn, 1) := by decide +kernel
theorem dX7_when_61 : decode cX7_when 61 = .ok (.aload_n 0, 1) := by decide +kernel
theorem dX7_when_62 : decode cX7_when 62 = .ok (.getfield 77, 3) := by decide +kernel
theorem dX7_when_65 : decode cX7_when 65 = .ok (.aload_n 0, 1) := by decide +kernel
theorem dX7_when_66 : decode cX7_when 66 = .ok (.getfield 158, 3) := by decide +kernel
theorem dX7_when_69 : decode cX7_when 69 = .ok (.iload_n 2, 1) := by decide +kernel
theorem dX7_when_70 : decode cX7_when 70 = .ok (.iastore, 1) := by decide +kernel
theorem dX7_when_71 : decode cX7_when 71 = .ok (.aload_n 0, 1) := by decide +kernel
theorem dX7_when_72 : decode cX7_when 72 = .ok (.getfield 80, 3) := by decide +kernel
theorem dX7_when_75 : decode cX7_when 75 = .ok (.aload_n 0, 1) := by decide +kernel
theorem dX7_when_76 : decode cX7_when 76 = .ok (.getfield 158, 3) := by decide +kernel
theorem dX7_when_79 : decode cX7_when 79 = .ok (.iload_n 1, 1) := by decide +kernel
theorem dX7_when_80 : decode cX7_when 80 = .ok (.iastore, 1) := by decide +kernel
theorem dX7_when_81 : decode cX7_when 81 = .ok (.aload_n 0, 1) := by decide +kernel
theorem dX7_when_82 : decode cX7_when 82 = .ok (.getfield 83, 3) := by decide +kernel
theorem dX7_when_85 : decode cX7_when 85 = .ok (.aload_n 0, 1) := by decide +kernel
theorem dX7_when_86 : decode cX7_when 86 = .ok (.getfield 158, 3) := by decide +kernel
theorem dX7_when_89 : decode cX7_when 89 = .ok (.iload_n 3, 1) := by decide +kernel
theorem dX7_when_90 : decode cX7_when 90 = .ok (.iastore, 1) := by decide +kernel
theorem dX7_when_91 : decode cX7_when 91 = .ok (.aload_n 0, 1) := by decide +kernel
theorem dX7_when_92 : decode cX7_when 92 = .ok (.getfield 86, 3) := by decide +kernel
theorem dX7_when_95 : decode cX7_when 95 = .ok (.aload_n 0, 1) := by decide +kernel
theorem dX7_when_96 : decode cX7_when 96 = .ok (.getfield 158, 3) := by decide +kernel
theorem dX7_when_99 : decode cX7_when 99 = .ok (.iconst 0, 1) := by decide +kernel
theorem dX7_when_100 : decode cX7_when 100 = .ok (.bastore, 1) := by decide +kernel
theorem dX7_when_101 : decode cX7_when 101 = .ok (.aload_n 0, 1) := by decide +kernel
theorem dX7_when_102 : decode cX7_when 102 = .ok (.dup, 1) := by decide +kernel
theorem dX7_when_103 : decode cX7_when 103 = .ok (.getfield 158, 3) := by decide +kernel
theorem dX7_when_106 : decode cX7_when 106 = .ok (.iconst 1, 1) := by decide +kernel
theorem dX7_when_107 : decode cX7_when 107 = .ok (.iadd, 1) := by decide +kernel
theorem dX7_when_108 : decode cX7_when 108 = .ok (.putfield 158, 3) := by decide +kernel
theorem dX7_when_111 : decode cX7_when 111 = .ok (.aload_n 0, 1) := by decide +kernel
theorem dX7_when_112 : decode cX7_when 112 = .ok (.iload_n 2, 1) := by decide +kernel
theorem dX7_when_113 : decode cX7_when 113 = .ok (.iload_n 1, 1) := by decide +kernel
theorem dX7_when_114 : decode cX7_when 114 = .ok (.invokevirtual 287, 3) := by decide +kernel
theorem dX7_when_117 : decode cX7_when 117 = .ok (.ifCond .eq 25, 3) := by decide +kernel
theorem dX7_when_120 : decode cX7_when 120 = .ok (.aload_n 0, 1) := by decide +kernel
theorem dX7_when_121 : decode cX7_when 121 = .ok (.aload_n 0, 1) := by decide +kernel
theorem dX7_when_122 : decode cX7_when 122 = .ok (.getfield 158, 3) := by decide +kernel
theorem dX7_when_125 : decode cX7_when 125 = .ok (.iconst 1, 1) := by decide +kernel
theorem dX7_when_126 : decode cX7_when 126 = .ok (.isub, 1) := by decide +kernel
theorem dX7_when_127 : decode cX7_when 127 = .ok (.aload_n 0, 1) := by decide +kernel
theorem dX7_when_128 : decode cX7_when 128 = .ok (.iload_n 2, 1) := by decide +kernel
theorem dX7_when_129 : decode cX7_when 129 = .ok (.iload_n 1, 1) := by decide +kernel
theorem dX7_when_130 : decode cX7_when 130 = .ok (.invokevirtual 287, 3) := by decide +kernel
theorem dX7_when_133 : decode cX7_when 133 = .ok (.aload_n 0, 1) := by decide +kernel
theorem dX7_when_134 : decode cX7_when 134 = .ok (.iload_n 2, 1) := by decide +kernel
theorem dX7_when_135 : decode cX7_when 135 = .ok (.iload_n 1, 1) := by decide +kernel
theorem dX7_when_136 : decode cX7_when 136 = .ok (.invokevirtual 290, 3) := by decide +kernel
theorem dX7_when_139 : decode cX7_when 139 = .ok (.invokevirtual 161, 3) := by decide +kernel
theorem dX7_when_142 : decode cX7_when 142 = .ok (.aload_n 0, 1) := by decide +kernel
theorem dX7_when_143 : decode cX7_when 143 = .ok (.getfield 158, 3) := by decide +kernel
theorem dX7_when_146 : decode cX7_when 146 = .ok (.ireturn, 1) := by decide +kernel
theorem dX7_state_0 : decode cX7_state 0 = .ok (.aload_n 0, 1) := by decide +kernel
theorem dX7_state_1 : decode cX7_state 1 = .ok (.iload_n 1, 1) := by decide +kernel
theorem dX7_state_2 : decode cX7_state 2 = .ok (.invokevirtual 280, 3) := by decide +kernel
theorem dX7_state_5 : decode cX7_state 5 = .ok (.ifCond .eq 21, 3) := by decide +kernel
theorem dX7_state_8 : decode cX7_state 8 = .ok (.iload_n 2, 1) := by decide +kernel
theorem dX7_state_9 : decode cX7_state 9 = .ok (.iconst 0, 1) := by decide +kernel
theorem dX7_state_10 : decode cX7_state 10 = .ok (.iconst 3, 1) := by decide +kernel
theorem dX7_state_11 : decode cX7_state 11 = .ok (.invokestatic 132, 3) := by decide +kernel
theorem dX7_state_14 : decode cX7_state 14 = .ok (.ifCond .eq 12, 3) := by decide +kernel
theorem dX7_state_17 : decode cX7_state 17 = .ok (.iload_n 3, 1) := by decide +kernel
theorem dX7_state_18 : decode cX7_state 18 = .ok (.iconst 0, 1) := by decide +kernel
theorem dX7_state_19 : decode cX7_state 19 = .ok (.iconst 1, 1) := by decide +kernel
theorem dX7_state_20 : decode cX7_state 20 = .ok (.invokestatic 132, 3) := by decide +kernel
theorem dX7_state_23 : decode cX7_state 23 = .ok (.ifCond .ne 5, 3) := by decide +kernel
theorem dX7_state_26 : decode cX7_state 26 = .ok (.iconst (-1), 1) := by decide +kernel
theorem dX7_state_27 : decode cX7_state 27 = .ok (.ireturn, 1) := by decide +kernel
theorem dX7_state_28 : decode cX7_state 28 = .ok (.aload_n 0, 1) := by decide +kernel
theorem dX7_state_29 : decode cX7_state 29 = .ok (.iload_n 1, 1) := by decide +kernel
theorem dX7_state_30 : decode cX7_state 30 = .ok (.iload_n 2, 1) := by decide +kernel
theorem dX7_state_31 : decode cX7_state 31 = .ok (.invokevirtual 283, 3) := by decide +kernel
theorem dX7_state_34 : decode cX7_state 34 = .ok (.ifCond .ne 6, 3) := by decide +kernel
theorem dX7_state_37 : decode cX7_state 37 = .ok (.bipush (-2), 2) := by decide +kernel
theorem dX7_state_39 : decode cX7_state 39 = .ok (.ireturn, 1) := by decide +kernel
theorem dX7_state_40 : decode cX7_state 40 = .ok (.iload_n 3, 1) := by decide +kernel
theorem dX7_state_41 : decode cX7_state 41 = .ok (.ifCond .ne 12, 3) := by decide +kernel
theorem dX7_state_44 : decode cX7_state 44 = .ok (.aload_n 0, 1) := by decide +kernel
theorem dX7_state_45 : decode cX7_state 45 = .ok (.iload_n 1, 1) := by decide +kernel
theorem dX7_state_46 : decode cX7_state 46 = .ok (.iload_n 2, 1) := by decide +kernel
theorem dX7_state_47 : decode cX7_state 47 = .ok (.invokevirtual 287, 3) := by decide +kernel
theorem dX7_state_50 : decode cX7_state 50 = .ok (.goto 9, 3) := by decide +kernel
theorem dX7_state_53 : decode cX7_state 53 = .ok (.aload_n 0, 1) := by decide +kernel
theorem dX7_state_54 : decode cX7_state 54 = .ok (.iload_n 1, 1) := by decide +kernel
theorem dX7_state_55 : decode cX7_state 55 = .ok (.iload_n 2, 1) := by decide +kernel
theorem dX7_state_56 : decode cX7_state 56 = .ok (.invokevirtual 290, 3) := by decide +kernel
theorem dX7_state_59 : decode cX7_state 59 = .ok (.ireturn, 1) := by decide +kernel
theorem dX7_waitsFor_0 : decode cX7_waitsFor 0 = .ok (.iconst 0, 1) := by decide +kernel
theorem dX7_waitsFor_1 : decode cX7_waitsFor 1 = .ok (.istore_n 2, 1) := by decide +kernel
theorem dX7_waitsFor_2 : decode cX7_waitsFor 2 = .ok (.iconst 0, 1) := by decide +kernel
theorem dX7_waitsFor_3 : decode cX7_waitsFor 3 = .ok (.istore_n 3, 1) := by decide +kernel
theorem dX7_waitsFor_4 : decode cX7_waitsFor 4 = .ok (.iload_n 3, 1) := by decide +kernel
theorem dX7_waitsFor_5 : decode cX7_waitsFor 5 = .ok (.aload_n 0, 1) := by decide +kernel
theorem dX7_waitsFor_6 : decode cX7_waitsFor 6 = .ok (.getfield 136, 3) := by decide +kernel
theorem dX7_waitsFor_9 : decode cX7_waitsFor 9 = .ok (.if_icmp .ge 37, 3) := by decide +kernel
theorem dX7_waitsFor_12 : decode cX7_waitsFor 12 = .ok (.iload_n 2, 1) := by decide +kernel
theorem dX7_waitsFor_13 : decode cX7_waitsFor 13 = .ok (.aload_n 0, 1) := by decide +kernel
theorem dX7_waitsFor_14 : decode cX7_waitsFor 14 = .ok (.getfield 56, 3) := by decide +kernel
theorem dX7_waitsFor_17 : decode cX7_waitsFor 17 = .ok (.iload_n 3, 1) := by decide +kernel
theorem dX7_waitsFor_18 : decode cX7_waitsFor 18 = .ok (.iaload, 1) := by decide +kernel
theorem dX7_waitsFor_19 : decode cX7_waitsFor 19 = .ok (.iconst 2, 1) := by decide +kernel
theorem dX7_waitsFor_20 : decode cX7_waitsFor 20 = .ok (.if_icmp .ne 17, 3) := by decide +kernel
theorem dX7_waitsFor_23 : decode cX7_waitsFor 23 = .ok (.aload_n 0, 1) := by decide +kernel
theorem dX7_waitsFor_24 : decode cX7_waitsFor 24 = .ok (.getfield 71, 3) := by decide +kernel
theorem dX7_waitsFor_27 : decode cX7_waitsFor 27 = .ok (.iload_n 3, 1) := by decide +kernel
theorem dX7_waitsFor_28 : decode cX7_waitsFor 28 = .ok (.iaload, 1) := by decide +kernel
theorem dX7_waitsFor_29 : decode cX7_waitsFor 29 = .ok (.iload_n 1, 1) := by decide +kernel
theorem dX7_waitsFor_30 : decode cX7_waitsFor 30 = .ok (.if_icmp .ne 7, 3) := by decide +kernel
theorem dX7_waitsFor_33 : decode cX7_waitsFor 33 = .ok (.iconst 1, 1) := by decide +kernel
theorem dX7_waitsFor_34 : decode cX7_waitsFor 34 = .ok (.goto 4, 3) := by decide +kernel
theorem dX7_waitsFor_37 : decode cX7_waitsFor 37 = .ok (.iconst 0, 1) := by decide +kernel
theorem dX7_waitsFor_38 : decode cX7_waitsFor 38 = .ok (.iadd, 1) := by decide +kernel
theorem dX7_waitsFor_39 : decode cX7_waitsFor 39 = .ok (.istore_n 2, 1) := by decide +kernel
theorem dX7_waitsFor_40 : decode cX7_waitsFor 40 = .ok (.iinc 3 1, 3) := by decide +kernel
theorem dX7_waitsFor_43 : decode cX7_waitsFor 43 = .ok (.goto (-39), 3) := by decide +kernel
theorem dX7_waitsFor_46 : decode cX7_waitsFor 46 = .ok (.iload_n 2, 1) := by decide +kernel
theorem dX7_waitsFor_47 : decode cX7_waitsFor 47 = .ok (.ireturn, 1) := by decide +kernel
theorem dX7_promise_0 : decode cX7_promise 0 = .ok (.aload_n 0, 1) := by decide +kernel
theorem dX7_promise_1 : decode cX7_promise 1 = .ok (.iload_n 1, 1) := by decide +kernel
theorem dX7_promise_2 : decode cX7_promise 2 = .ok (.invokevirtual 280, 3) := by decide +kernel
theorem dX7_promise_5 : decode cX7_promise 5 = .ok (.ifCond .ne 5, 3) := by decide +kernel
theorem dX7_promise_8 : decode cX7_promise 8 = .ok (.iconst (-1), 1) := by decide +kernel
theorem dX7_promise_9 : decode cX7_promise 9 = .ok (.ireturn, 1) := by decide +kernel
theorem dX7_promise_10 : decode cX7_promise 10 = .ok (.iload_n 2, 1) := by decide +kernel
theorem dX7_promise_11 : decode cX7_promise 11 = .ok (.tableswitch 67 0 4 #[33, 40, 47, 53, 60], 33) := by decide +kernel
theorem dX7_promise_44 : decode cX7_promise 44 = .ok (.aload_n 0, 1) := by decide +kernel
theorem dX7_promise_45 : decode cX7_promise 45 = .ok (.getfield 35, 3) := by decide +kernel
theorem dX7_promise_48 : decode cX7_promise 48 = .ok (.iload_n 1, 1) := by decide +kernel
theorem dX7_promise_49 : decode cX7_promise 49 = .ok (.iaload, 1) := by decide +kernel
theorem dX7_promise_50 : decode cX7_promise 50 = .ok (.ireturn, 1) := by decide +kernel
theorem dX7_promise_51 : decode cX7_promise 51 = .ok (.aload_n 0, 1) := by decide +kernel
theorem dX7_promise_52 : decode cX7_promise 52 = .ok (.getfield 38, 3) := by decide +kernel
theorem dX7_promise_55 : decode cX7_promise 55 = .ok (.iload_n 1, 1) := by decide +kernel
theorem dX7_promise_56 : decode cX7_promise 56 = .ok (.iaload, 1) := by decide +kernel
theorem dX7_promise_57 : decode cX7_promise 57 = .ok (.ireturn, 1) := by decide +kernel
theorem dX7_promise_58 : decode cX7_promise 58 = .ok (.aload_n 0, 1) := by decide +kernel
theorem dX7_promise_59 : decode cX7_promise 59 = .ok (.iload_n 1, 1) := by decide +kernel
theorem dX7_promise_60 : decode cX7_promise 60 = .ok (.invokevirtual 293, 3) := by decide +kernel
theorem dX7_promise_63 : decode cX7_promise 63 = .ok (.ireturn, 1) := by decide +kernel
theorem dX7_promise_64 : decode cX7_promise 64 = .ok (.aload_n 0, 1) := by decide +kernel
theorem dX7_promise_65 : decode cX7_promise 65 = .ok (.getfield 53, 3) := by decide +kernel
theorem dX7_promise_68 : decode cX7_promise 68 = .ok (.iload_n 1, 1) := by decide +kernel
theorem dX7_promise_69 : decode cX7_promise 69 = .ok (.iaload, 1) := by decide +kernel
theorem dX7_promise_70 : decode cX7_promise 70 = .ok (.ireturn, 1) := by decide +kernel
theorem dX7_promise_71 : decode cX7_promise 71 = .ok (.aload_n 0, 1) := by decide +kernel
theorem dX7_promise_72 : decode cX7_promise 72 = .ok (.getfield 56, 3) := by decide +kernel
theorem dX7_promise_75 : decode cX7_promise 75 = .ok (.iload_n 1, 1) := by decide +kernel
theorem dX7_promise_76 : decode cX7_promise 76 = .ok (.iaload, 1) := by decide +kernel
theorem dX7_promise_77 : decode cX7_promise 77 = .ok (.ireturn, 1) := by decide +kernel
theorem dX7_promise_78 : decode cX7_promise 78 = .ok (.iconst (-1), 1) := by decide +kernel
theorem dX7_promise_79 : decode cX7_promise 79 = .ok (.ireturn, 1) := by decide +kernel
theorem dX7_firstLetter_0 : decode cX7_firstLetter 0 = .ok (.iconst 0, 1) := by decide +kernel
theorem dX7_firstLetter_1 : decode cX7_firstLetter 1 = .ok (.istore_n 3, 1) := by decide +kernel
theorem dX7_firstLetter_2 : decode cX7_firstLetter 2 = .ok (.iload_n 3, 1) := by decide +kernel
theorem dX7_firstLetter_3 : decode cX7_firstLetter 3 = .ok (.aload_n 0, 1) := by decide +kernel
theorem dX7_firstLetter_4 : decode cX7_firstLetter 4 = .ok (.getfield 147, 3) := by decide +kernel
theorem dX7_firstLetter_7 : decode cX7_firstLetter 7 = .ok (.if_icmp .ge 29, 3) := by decide +kernel
theorem dX7_firstLetter_10 : decode cX7_firstLetter 10 = .ok (.aload_n 0, 1) := by decide +kernel
theorem dX7_firstLetter_11 : decode cX7_firstLetter 11 = .ok (.getfield 92, 3) := by decide +kernel
theorem dX7_firstLetter_14 : decode cX7_firstLetter 14 = .ok (.iload_n 3, 1) := by decide +kernel
theorem dX7_firstLetter_15 : decode cX7_firstLetter 15 = .ok (.iaload, 1) := by decide +kernel
theorem dX7_firstLetter_16 : decode cX7_firstLetter 16 = .ok (.iload_n 1, 1) := by decide +kernel
theorem dX7_firstLetter_17 : decode cX7_firstLetter 17 = .ok (.if_icmp .ne 13, 3) := by decide +kernel
theorem dX7_firstLetter_20 : decode cX7_firstLetter 20 = .ok (.aload_n 0, 1) := by decide +kernel
theorem dX7_firstLetter_21 : decode cX7_firstLetter 21 = .ok (.getfield 95, 3) := by decide +kernel
theorem dX7_firstLetter_24 : decode cX7_firstLetter 24 = .ok (.iload_n 3, 1) := by decide +kernel
theorem dX7_firstLetter_25 : decode cX7_firstLetter 25 = .ok (.iaload, 1) := by decide +kernel
theorem dX7_firstLetter_26 : decode cX7_firstLetter 26 = .ok (.iload_n 2, 1) := by decide +kernel
theorem dX7_firstLetter_27 : decode cX7_firstLetter 27 = .ok (.if_icmp .eq 9, 3) := by decide +kernel
theorem dX7_firstLetter_30 : decode cX7_firstLetter 30 = .ok (.iinc 3 1, 3) := by decide +kernel
theorem dX7_firstLetter_33 : decode cX7_firstLetter 33 = .ok (.goto (-31), 3) := by decide +kernel
theorem dX7_firstLetter_36 : decode cX7_firstLetter 36 = .ok (.iload_n 3, 1) := by decide +kernel
theorem dX7_firstLetter_37 : decode cX7_firstLetter 37 = .ok (.ireturn, 1) := by decide +kernel
theorem dX7_takesOut_0 : decode cX7_takesOut 0 = .ok (.aload_n 0, 1) := by decide +kernel
theorem dX7_takesOut_1 : decode cX7_takesOut 1 = .ok (.aload_n 0, 1) := by decide +kernel
theorem dX7_takesOut_2 : decode cX7_takesOut 2 = .ok (.getfield 89, 3) := by decide +kernel
theorem dX7_takesOut_5 : decode cX7_takesOut 5 = .ok (.iload_n 1, 1) := by decide +kernel
theorem dX7_takesOut_6 : decode cX7_takesOut 6 = .ok (.iaload, 1) := by decide +kernel
theorem dX7_takesOut_7 : decode cX7_takesOut 7 = .ok (.putfield 297, 3) := by decide +kernel
theorem dX7_takesOut_10 : decode cX7_takesOut 10 = .ok (.aload_n 0, 1) := by decide +kernel
theorem dX7_takesOut_11 : decode cX7_takesOut 11 = .ok (.aload_n 0, 1) := by decide +kernel
theorem dX7_takesOut_12 : decode cX7_takesOut 12 = .ok (.getfield 92, 3) := by decide +kernel
theorem dX7_takesOut_15 : decode cX7_takesOut 15 = .ok (.iload_n 1, 1) := by decide +kernel
theorem dX7_takesOut_16 : decode cX7_takesOut 16 = .ok (.iaload, 1) := by decide +kernel
theorem dX7_takesOut_17 : decode cX7_takesOut 17 = .ok (.putfield 300, 3) := by decide +kernel
theorem dX7_takesOut_20 : decode cX7_takesOut 20 = .ok (.aload_n 0, 1) := by decide +kernel
theorem dX7_takesOut_21 : decode cX7_takesOut 21 = .ok (.aload_n 0, 1) := by decide +kernel
theorem dX7_takesOut_22 : decode cX7_takesOut 22 = .ok (.getfield 95, 3) := by decide +kernel
theorem dX7_takesOut_25 : decode cX7_takesOut 25 = .ok (.iload_n 1, 1) := by decide +kernel
theorem dX7_takesOut_26 : decode cX7_takesOut 26 = .ok (.iaload, 1) := by decide +kernel
theorem dX7_takesOut_27 : decode cX7_takesOut 27 = .ok (.putfield 303, 3) := by decide +kernel
theorem dX7_takesOut_30 : decode cX7_takesOut 30 = .ok (.aload_n 0, 1) := by decide +kernel
theorem dX7_takesOut_31 : decode cX7_takesOut 31 = .ok (.aload_n 0, 1) := by decide +kernel
theorem dX7_takesOut_32 : decode cX7_takesOut 32 = .ok (.getfield 98, 3) := by decide +kernel
theorem dX7_takesOut_35 : decode cX7_takesOut 35 = .ok (.iload_n 1, 1) := by decide +kernel
theorem dX7_takesOut_36 : decode cX7_takesOut 36 = .ok (.iaload, 1) := by decide +kernel
theorem dX7_takesOut_37 : decode cX7_takesOut 37 = .ok (.putfield 306, 3) := by decide +kernel
theorem dX7_takesOut_40 : decode cX7_takesOut 40 = .ok (.aload_n 0, 1) := by decide +kernel
theorem dX7_takesOut_41 : decode cX7_takesOut 41 = .ok (.aload_n 0, 1) := by decide +kernel
theorem dX7_takesOut_42 : decode cX7_takesOut 42 = .ok (.getfield 101, 3) := by decide +kernel
theorem dX7_takesOut_45 : decode cX7_takesOut 45 = .ok (.iload_n 1, 1) := by decide +kernel
theorem dX7_takesOut_46 : decode cX7_takesOut 46 = .ok (.iaload, 1) := by decide +kernel
theorem dX7_takesOut_47 : decode cX7_takesOut 47 = .ok (.putfield 309, 3) := by decide +kernel
theorem dX7_takesOut_50 : decode cX7_takesOut 50 = .ok (.aload_n 0, 1) := by decide +kernel
theorem dX7_takesOut_51 : decode cX7_takesOut 51 = .ok (.aload_n 0, 1) := by decide +kernel
theorem dX7_takesOut_52 : decode cX7_takesOut 52 = .ok (.getfield 104, 3) := by decide +kernel
theorem dX7_takesOut_55 : decode cX7_takesOut 55 = .ok (.iload_n 1, 1) := by decide +kernel
theorem dX7_takesOut_56 : decode cX7_takesOut 56 = .ok (.iaload, 1) := by decide +kernel
theorem dX7_takesOut_57 : decode cX7_takesOut 57 = .ok (.putfield 312, 3) := by decide +kernel
theorem dX7_takesOut_60 : decode cX7_takesOut 60 = .ok (.aload_n 0, 1) := by decide +kernel
theorem dX7_takesOut_61 : decode cX7_takesOut 61 = .ok (.aload_n 0, 1) := by decide +kernel
theorem dX7_takesOut_62 : decode cX7_takesOut 62 = .ok (.getfield 107, 3) := by decide +kernel
theorem dX7_takesOut_65 : decode cX7_takesOut 65 = .ok (.iload_n 1, 1) := by decide +kernel
theorem dX7_takesOut_66 : decode cX7_takesOut 66 = .ok (.iaload, 1) := by decide +kernel
theorem dX7_takesOut_67 : decode cX7_takesOut 67 = .ok (.putfield 315, 3) := by decide +kernel
theorem dX7_takesOut_70 : decode cX7_takesOut 70 = .ok (.aload_n 0, 1) := by decide +kernel
theorem dX7_takesOut_71 : decode cX7_takesOut 71 = .ok (.aload_n 0, 1) := by decide +kernel
theorem dX7_takesOut_72 : decode cX7_takesOut 72 = .ok (.getfield 110, 3) := by decide +kernel
theorem dX7_takesOut_75 : decode cX7_takesOut 75 = .ok (.iload_n 1, 1) := by decide +kernel
theorem dX7_takesOut_76 : decode cX7_takesOut 76 = .ok (.iaload, 1) := by decide +kernel
theorem dX7_takesOut_77 : decode cX7_takesOut 77 = .ok (.putfield 318, 3) := by decide +kernel
theorem dX7_takesOut_80 : decode cX7_takesOut 80 = .ok (.aload_n 0, 1) := by decide +kernel
theorem dX7_takesOut_81 : decode cX7_takesOut 81 = .ok (.aload_n 0, 1) := by decide +kernel
theorem dX7_takesOut_82 : decode cX7_takesOut 82 = .ok (.getfield 113, 3) := by decide +kernel
theorem dX7_takesOut_85 : decode cX7_takesOut 85 = .ok (.iload_n 1, 1) := by decide +kernel
theorem dX7_takesOut_86 : decode cX7_takesOut 86 = .ok (.baload, 1) := by decide +kernel
theorem dX7_takesOut_87 : decode cX7_takesOut 87 = .ok (.putfield 321, 3) := by decide +kernel
theorem dX7_takesOut_90 : decode cX7_takesOut 90 = .ok (.aload_n 0, 1) := by decide +kernel
theorem dX7_takesOut_91 : decode cX7_takesOut 91 = .ok (.dup, 1) := by decide +kernel
theorem dX7_takesOut_92 : decode cX7_takesOut 92 = .ok (.getfield 147, 3) := by decide +kernel
theorem dX7_takesOut_95 : decode cX7_takesOut 95 = .ok (.iconst 1, 1) := by decide +kernel
theorem dX7_takesOut_96 : decode cX7_takesOut 96 = .ok (.isub, 1) := by decide +kernel
theorem dX7_takesOut_97 : decode cX7_takesOut 97 = .ok (.putfield 147, 3) := by decide +kernel
theorem dX7_takesOut_100 : decode cX7_takesOut 100 = .ok (.iload_n 1, 1) := by decide +kernel
theorem dX7_takesOut_101 : decode cX7_takesOut 101 = .ok (.istore_n 2, 1) := by decide +kernel
theorem dX7_takesOut_102 : decode cX7_takesOut 102 = .ok (.iload_n 2, 1) := by decide +kernel
theorem dX7_takesOut_103 : decode cX7_takesOut 103 = .ok (.aload_n 0, 1) := by decide +kernel
theorem dX7_takesOut_104 : decode cX7_takesOut 104 = .ok (.getfield 147, 3) := by decide +kernel
theorem dX7_takesOut_107 : decode cX7_takesOut 107 = .ok (.if_icmp .ge 135, 3) := by decide +kernel
theorem dX7_takesOut_110 : decode cX7_takesOut 110 = .ok (.aload_n 0, 1) := by decide +kernel
theorem dX7_takesOut_111 : decode cX7_takesOut 111 = .ok (.getfield 89, 3) := by decide +kernel
theorem dX7_takesOut_114 : decode cX7_takesOut 114 = .ok (.iload_n 2, 1) := by decide +kernel
theorem dX7_takesOut_115 : decode cX7_takesOut 115 = .ok (.aload_n 0, 1) := by decide +kernel
theorem dX7_takesOut_116 : decode cX7_takesOut 116 = .ok (.getfield 89, 3) := by decide +kernel
theorem dX7_takesOut_119 : decode cX7_takesOut 119 = .ok (.iload_n 2, 1) := by decide +kernel
theorem dX7_takesOut_120 : decode cX7_takesOut 120 = .ok (.iconst 1, 1) := by decide +kernel
theorem dX7_takesOut_121 : decode cX7_takesOut 121 = .ok (.iadd, 1) := by decide +kernel
theorem dX7_takesOut_122 : decode cX7_takesOut 122 = .ok (.iaload, 1) := by decide +kernel
theorem dX7_takesOut_123 : decode cX7_takesOut 123 = .ok (.iastore, 1) := by decide +kernel
theorem dX7_takesOut_124 : decode cX7_takesOut 124 = .ok (.aload_n 0, 1) := by decide +kernel
theorem dX7_takesOut_125 : decode cX7_takesOut 125 = .ok (.getfield 92, 3) := by decide +kernel
theorem dX7_takesOut_128 : decode cX7_takesOut 128 = .ok (.iload_n 2, 1) := by decide +kernel
theorem dX7_takesOut_129 : decode cX7_takesOut 129 = .ok (.aload_n 0, 1) := by decide +kernel
theorem dX7_takesOut_130 : decode cX7_takesOut 130 = .ok (.getfield 92, 3) := by decide +kernel
theorem dX7_takesOut_133 : decode cX7_takesOut 133 = .ok (.iload_n 2, 1) := by decide +kernel
theorem dX7_takesOut_134 : decode cX7_takesOut 134 = .ok (.iconst 1, 1) := by decide +kernel
theorem dX7_takesOut_135 : decode cX7_takesOut 135 = .ok (.iadd, 1) := by decide +kernel
theorem dX7_takesOut_136 : decode cX7_takesOut 136 = .ok (.iaload, 1) := by decide +kernel
theorem dX7_takesOut_137 : decode cX7_takesOut 137 = .ok (.iastore, 1) := by decide +kernel
theorem dX7_takesOut_138 : decode cX7_takesOut 138 = .ok (.aload_n 0, 1) := by decide +kernel
theorem dX7_takesOut_139 : decode cX7_takesOut 139 = .ok (.getfield 95, 3) := by decide +kernel
theorem dX7_takesOut_142 : decode cX7_takesOut 142 = .ok (.iload_n 2, 1) := by decide +kernel
theorem dX7_takesOut_143 : decode cX7_takesOut 143 = .ok (.aload_n 0, 1) := by decide +kernel
theorem dX7_takesOut_144 : decode cX7_takesOut 144 = .ok (.getfield 95, 3) := by decide +kernel
theorem dX7_takesOut_147 : decode cX7_takesOut 147 = .ok (.iload_n 2, 1) := by decide +kernel
theorem dX7_takesOut_148 : decode cX7_takesOut 148 = .ok (.iconst 1, 1) := by decide +kernel
theorem dX7_takesOut_149 : decode cX7_takesOut 149 = .ok (.iadd, 1) := by decide +kernel
theorem dX7_takesOut_150 : decode cX7_takesOut 150 = .ok (.iaload, 1) := by decide +kernel
theorem dX7_takesOut_151 : decode cX7_takesOut 151 = .ok (.iastore, 1) := by decide +kernel
theorem dX7_takesOut_152 : decode cX7_takesOut 152 = .ok (.aload_n 0, 1) := by decide +kernel
theorem dX7_takesOut_153 : decode cX7_takesOut 153 = .ok (.getfield 98, 3) := by decide +kernel
theorem dX7_takesOut_156 : decode cX7_takesOut 156 = .ok (.iload_n 2, 1) := by decide +kernel
theorem dX7_takesOut_157 : decode cX7_takesOut 157 = .ok (.aload_n 0, 1) := by decide +kernel
theorem dX7_takesOut_158 : decode cX7_takesOut 158 = .ok (.getfield 98, 3) := by decide +kernel
theorem dX7_takesOut_161 : decode cX7_takesOut 161 = .ok (.iload_n 2, 1) := by decide +kernel
theorem dX7_takesOut_162 : decode cX7_takesOut 162 = .ok (.iconst 1, 1) := by decide +kernel
theorem dX7_takesOut_163 : decode cX7_takesOut 163 = .ok (.iadd, 1) := by decide +kernel
theorem dX7_takesOut_164 : decode cX7_takesOut 164 = .ok (.iaload, 1) := by decide +kernel
theorem dX7_takesOut_165 : decode cX7_takesOut 165 = .ok (.iastore, 1) := by decide +kernel
theorem dX7_takesOut_166 : decode cX7_takesOut 166 = .ok (.aload_n 0, 1) := by decide +kernel
theorem dX7_takesOut_167 : decode cX7_takesOut 167 = .ok (.getfield 101, 3) := by decide +kernel
theorem dX7_takesOut_170 : decode cX7_takesOut 170 = .ok (.iload_n 2, 1) := by decide +kernel
theorem dX7_takesOut_171 : decode cX7_takesOut 171 = .ok (.aload_n 0, 1) := by decide +kernel
theorem dX7_takesOut_172 : decode cX7_takesOut 172 = .ok (.getfield 101, 3) := by decide +kernel
theorem dX7_takesOut_175 : decode cX7_takesOut 175 = .ok (.iload_n 2, 1) := by decide +kernel
theorem dX7_takesOut_176 : decode cX7_takesOut 176 = .ok (.iconst 1, 1) := by decide +kernel
theorem dX7_takesOut_177 : decode cX7_takesOut 177 = .ok (.iadd, 1) := by decide +kernel
theorem dX7_takesOut_178 : decode cX7_takesOut 178 = .ok (.iaload, 1) := by decide +kernel
theorem dX7_takesOut_179 : decode cX7_takesOut 179 = .ok (.iastore, 1) := by decide +kernel
theorem dX7_takesOut_180 : decode cX7_takesOut 180 = .ok (.aload_n 0, 1) := by decide +kernel
theorem dX7_takesOut_181 : decode cX7_takesOut 181 = .ok (.getfield 104, 3) := by decide +kernel
theorem dX7_takesOut_184 : decode cX7_takesOut 184 = .ok (.iload_n 2, 1) := by decide +kernel
theorem dX7_takesOut_185 : decode cX7_takesOut 185 = .ok (.aload_n 0, 1) := by decide +kernel
theorem dX7_takesOut_186 : decode cX7_takesOut 186 = .ok (.getfield 104, 3) := by decide +kernel
theorem dX7_takesOut_189 : decode cX7_takesOut 189 = .ok (.iload_n 2, 1) := by decide +kernel
theorem dX7_takesOut_190 : decode cX7_takesOut 190 = .ok (.iconst 1, 1) := by decide +kernel
theorem dX7_takesOut_191 : decode cX7_takesOut 191 = .ok (.iadd, 1) := by decide +kernel
theorem dX7_takesOut_192 : decode cX7_takesOut 192 = .ok (.iaload, 1) := by decide +kernel
theorem dX7_takesOut_193 : decode cX7_takesOut 193 = .ok (.iastore, 1) := by decide +kernel
theorem dX7_takesOut_194 : decode cX7_takesOut 194 = .ok (.aload_n 0, 1) := by decide +kernel
theorem dX7_takesOut_195 : decode cX7_takesOut 195 = .ok (.getfield 107, 3) := by decide +kernel
theorem dX7_takesOut_198 : decode cX7_takesOut 198 = .ok (.iload_n 2, 1) := by decide +kernel
theorem dX7_takesOut_199 : decode cX7_takesOut 199 = .ok (.aload_n 0, 1) := by decide +kernel
theorem dX7_takesOut_200 : decode cX7_takesOut 200 = .ok (.getfield 107, 3) := by decide +kernel
theorem dX7_takesOut_203 : decode cX7_takesOut 203 = .ok (.iload_n 2, 1) := by decide +kernel
theorem dX7_takesOut_204 : decode cX7_takesOut 204 = .ok (.iconst 1, 1) := by decide +kernel
theorem dX7_takesOut_205 : decode cX7_takesOut 205 = .ok (.iadd, 1) := by decide +kernel
theorem dX7_takesOut_206 : decode cX7_takesOut 206 = .ok (.iaload, 1) := by decide +kernel
theorem dX7_takesOut_207 : decode cX7_takesOut 207 = .ok (.iastore, 1) := by decide +kernel
theorem dX7_takesOut_208 : decode cX7_takesOut 208 = .ok (.aload_n 0, 1) := by decide +kernel
theorem dX7_takesOut_209 : decode cX7_takesOut 209 = .ok (.getfield 110, 3) := by decide +kernel
theorem dX7_takesOut_212 : decode cX7_takesOut 212 = .ok (.iload_n 2, 1) := by decide +kernel
theorem dX7_takesOut_213 : decode cX7_takesOut 213 = .ok (.aload_n 0, 1) := by decide +kernel
theorem dX7_takesOut_214 : decode cX7_takesOut 214 = .ok (.getfield 110, 3) := by decide +kernel
theorem dX7_takesOut_217 : decode cX7_takesOut 217 = .ok (.iload_n 2, 1) := by decide +kernel
theorem dX7_takesOut_218 : decode cX7_takesOut 218 = .ok (.iconst 1, 1) := by decide +kernel
theorem dX7_takesOut_219 : decode cX7_takesOut 219 = .ok (.iadd, 1) := by decide +kernel
theorem dX7_takesOut_220 : decode cX7_takesOut 220 = .ok (.iaload, 1) := by decide +kernel
theorem dX7_takesOut_221 : decode cX7_takesOut 221 = .ok (.iastore, 1) := by decide +kernel
theorem dX7_takesOut_222 : decode cX7_takesOut 222 = .ok (.aload_n 0, 1) := by decide +kernel
theorem dX7_takesOut_223 : decode cX7_takesOut 223 = .ok (.getfield 113, 3) := by decide +kernel
theorem dX7_takesOut_226 : decode cX7_takesOut 226 = .ok (.iload_n 2, 1) := by decide +kernel
theorem dX7_takesOut_227 : decode cX7_takesOut 227 = .ok (.aload_n 0, 1) := by decide +kernel
theorem dX7_takesOut_228 : decode cX7_takesOut 228 = .ok (.getfield 113, 3) := by decide +kernel
theorem dX7_takesOut_231 : decode cX7_takesOut 231 = .ok (.iload_n 2, 1) := by decide +kernel
theorem dX7_takesOut_232 : decode cX7_takesOut 232 = .ok (.iconst 1, 1) := by decide +kernel
theorem dX7_takesOut_233 : decode cX7_takesOut 233 = .ok (.iadd, 1) := by decide +kernel
theorem dX7_takesOut_234 : decode cX7_takesOut 234 = .ok (.baload, 1) := by decide +kernel
theorem dX7_takesOut_235 : decode cX7_takesOut 235 = .ok (.bastore, 1) := by decide +kernel
theorem dX7_takesOut_236 : decode cX7_takesOut 236 = .ok (.iinc 2 1, 3) := by decide +kernel
theorem dX7_takesOut_239 : decode cX7_takesOut 239 = .ok (.goto (-137), 3) := by decide +kernel
theorem dX7_takesOut_242 : decode cX7_takesOut 242 = .ok (.return_, 1) := by decide +kernel
theorem dX7_comesToThing_0 : decode cX7_comesToThing 0 = .ok (.aload_n 0, 1) := by decide +kernel
theorem dX7_comesToThing_1 : decode cX7_comesToThing 1 = .ok (.aload_n 0, 1) := by decide +kernel
theorem dX7_comesToThing_2 : decode cX7_comesToThing 2 = .ok (.getfield 297, 3) := by decide +kernel
theorem dX7_comesToThing_5 : decode cX7_comesToThing 5 = .ok (.ifCond .ne 10, 3) := by decide +kernel
theorem dX7_comesToThing_8 : decode cX7_comesToThing 8 = .ok (.aload_n 0, 1) := by decide +kernel
theorem dX7_comesToThing_9 : decode cX7_comesToThing 9 = .ok (.getfield 306, 3) := by decide +kernel
theorem dX7_comesToThing_12 : decode cX7_comesToThing 12 = .ok (.goto 5, 3) := by decide +kernel
theorem dX7_comesToThing_15 : decode cX7_comesToThing 15 = .ok (.bipush (-9), 2) := by decide +kernel
theorem dX7_comesToThing_17 : decode cX7_comesToThing 17 = .ok (.putfield 209, 3) := by decide +kernel
theorem dX7_comesToThing_20 : decode cX7_comesToThing 20 = .ok (.aload_n 0, 1) := by decide +kernel
theorem dX7_comesToThing_21 : decode cX7_comesToThing 21 = .ok (.aload_n 0, 1) := by decide +kernel
theorem dX7_comesToThing_22 : decode cX7_comesToThing 22 = .ok (.getfield 209, 3) := by decide +kernel
theorem dX7_comesToThing_25 : decode cX7_comesToThing 25 = .ok (.ifCond .lt 15, 3) := by decide +kernel
theorem dX7_comesToThing_28 : decode cX7_comesToThing 28 = .ok (.aload_n 0, 1) := by decide +kernel
theorem dX7_comesToThing_29 : decode cX7_comesToThing 29 = .ok (.getfield 59, 3) := by decide +kernel
theorem dX7_comesToThing_32 : decode cX7_comesToThing 32 = .ok (.aload_n 0, 1) := by decide +kernel
theorem dX7_comesToThing_33 : decode cX7_comesToThing 33 = .ok (.getfield 209, 3) := by decide +kernel
theorem dX7_comesToThing_36 : decode cX7_comesToThing 36 = .ok (.iaload, 1) := by decide +kernel
theorem dX7_comesToThing_37 : decode cX7_comesToThing 37 = .ok (.goto 4, 3) := by decide +kernel
theorem dX7_comesToThing_40 : decode cX7_comesToThing 40 = .ok (.iconst 2, 1) := by decide +kernel
theorem dX7_comesToThing_41 : decode cX7_comesToThing 41 = .ok (.putfield 219, 3) := by decide +kernel
theorem dX7_comesToThing_44 : decode cX7_comesToThing 44 = .ok (.aload_n 0, 1) := by decide +kernel
theorem dX7_comesToThing_45 : decode cX7_comesToThing 45 = .ok (.aload_n 0, 1) := by decide +kernel
theorem dX7_comesToThing_46 : decode cX7_comesToThing 46 = .ok (.getfield 209, 3) := by decide +kernel
theorem dX7_comesToThing_49 : decode cX7_comesToThing 49 = .ok (.ifCond .lt 15, 3) := by decide +kernel
theorem dX7_comesToThing_52 : decode cX7_comesToThing 52 = .ok (.aload_n 0, 1) := by decide +kernel
theorem dX7_comesToThing_53 : decode cX7_comesToThing 53 = .ok (.getfield 62, 3) := by decide +kernel
theorem dX7_comesToThing_56 : decode cX7_comesToThing 56 = .ok (.aload_n 0, 1) := by decide +kernel
theorem dX7_comesToThing_57 : decode cX7_comesToThing 57 = .ok (.getfield 209, 3) := by decide +kernel
theorem dX7_comesToThing_60 : decode cX7_comesToThing 60 = .ok (.iaload, 1) := by decide +kernel
theorem dX7_comesToThing_61 : decode cX7_comesToThing 61 = .ok (.goto 7, 3) := by decide +kernel
theorem dX7_comesToThing_64 : decode cX7_comesToThing 64 = .ok (.aload_n 0, 1) := by decide +kernel
theorem dX7_comesToThing_65 : decode cX7_comesToThing 65 = .ok (.getfield 315, 3) := by decide +kernel
theorem dX7_comesToThing_68 : decode cX7_comesToThing 68 = .ok (.putfield 222, 3) := by decide +kernel
theorem dX7_comesToThing_71 : decode cX7_comesToThing 71 = .ok (.aload_n 0, 1) := by decide +kernel
theorem dX7_comesToThing_72 : decode cX7_comesToThing 72 = .ok (.getfield 209, 3) := by decide +kernel
theorem dX7_comesToThing_75 : decode cX7_comesToThing 75 = .ok (.ifCond .lt 13, 3) := by decide +kernel
theorem dX7_comesToThing_78 : decode cX7_comesToThing 78 = .ok (.aload_n 0, 1) := by decide +kernel
theorem dX7_comesToThing_79 : decode cX7_comesToThing 79 = .ok (.getfield 68, 3) := by decide +kernel
theorem dX7_comesToThing_82 : decode cX7_comesToThing 82 = .ok (.aload_n 0, 1) := by decide +kernel
theorem dX7_comesToThing_83 : decode cX7_comesToThing 83 = .ok (.getfield 209, 3) := by decide +kernel
theorem dX7_comesToThing_86 : decode cX7_comesToThing 86 = .ok (.iconst (-1), 1) := by decide +kernel
theorem dX7_comesToThing_87 : decode cX7_comesToThing 87 = .ok (.iastore, 1) := by decide +kernel
theorem dX7_comesToThing_88 : decode cX7_comesToThing 88 = .ok (.aload_n 0, 1) := by decide +kernel
theorem dX7_comesToThing_89 : decode cX7_comesToThing 89 = .ok (.aload_n 0, 1) := by decide +kernel
theorem dX7_comesToThing_90 : decode cX7_comesToThing 90 = .ok (.getfield 309, 3) := by decide +kernel
theorem dX7_comesToThing_93 : decode cX7_comesToThing 93 = .ok (.invokevirtual 325, 3) := by decide +kernel
theorem dX7_comesToThing_96 : decode cX7_comesToThing 96 = .ok (.return_, 1) := by decide +kernel
theorem dX7_comesToPromise_0 : decode cX7_comesToPromise 0 = .ok (.aload_n 0, 1) := by decide +kernel
theorem dX7_comesToPromise_1 : decode cX7_comesToPromise 1 = .ok (.getfield 306, 3) := by decide +kernel
theorem dX7_comesToPromise_4 : decode cX7_comesToPromise 4 = .ok (.istore_n 1, 1) := by decide +kernel
theorem dX7_comesToPromise_5 : decode cX7_comesToPromise 5 = .ok (.aload_n 0, 1) := by decide +kernel
theorem dX7_comesToPromise_6 : decode cX7_comesToPromise 6 = .ok (.getfield 312, 3) := by decide +kernel
theorem dX7_comesToPromise_9 : decode cX7_comesToPromise 9 = .ok (.istore_n 2, 1) := by decide +kernel
theorem dX7_comesToPromise_10 : decode cX7_comesToPromise 10 = .ok (.aload_n 0, 1) := by decide +kernel
theorem dX7_comesToPromise_11 : decode cX7_comesToPromise 11 = .ok (.getfield 41, 3) := by decide +kernel
theorem dX7_comesToPromise_14 : decode cX7_comesToPromise 14 = .ok (.iload_n 2, 1) := by decide +kernel
theorem dX7_comesToPromise_15 : decode cX7_comesToPromise 15 = .ok (.iaload, 1) := by decide +kernel
theorem dX7_comesToPromise_16 : decode cX7_comesToPromise 16 = .ok (.ifCond .ne 40, 3) := by decide +kernel
theorem dX7_comesToPromise_19 : decode cX7_comesToPromise 19 = .ok (.aload_n 0, 1) := by decide +kernel
theorem dX7_comesToPromise_20 : decode cX7_comesToPromise 20 = .ok (.getfield 56, 3) := by decide +kernel
theorem dX7_comesToPromise_23 : decode cX7_comesToPromise 23 = .ok (.iload_n 1, 1) := by decide +kernel
theorem dX7_comesToPromise_24 : decode cX7_comesToPromise 24 = .ok (.iconst 2, 1) := by decide +kernel
theorem dX7_comesToPromise_25 : decode cX7_comesToPromise 25 = .ok (.iastore, 1) := by decide +kernel
theorem dX7_comesToPromise_26 : decode cX7_comesToPromise 26 = .ok (.aload_n 0, 1) := by decide +kernel
theorem dX7_comesToPromise_27 : decode cX7_comesToPromise 27 = .ok (.getfield 71, 3) := by decide +kernel
theorem dX7_comesToPromise_30 : decode cX7_comesToPromise 30 = .ok (.iload_n 1, 1) := by decide +kernel
theorem dX7_comesToPromise_31 : decode cX7_comesToPromise 31 = .ok (.iload_n 2, 1) := by decide +kernel
theorem dX7_comesToPromise_32 : decode cX7_comesToPromise 32 = .ok (.iastore, 1) := by decide +kernel
theorem dX7_comesToPromise_33 : decode cX7_comesToPromise 33 = .ok (.aload_n 0, 1) := by decide +kernel
theorem dX7_comesToPromise_34 : decode cX7_comesToPromise 34 = .ok (.getfield 74, 3) := by decide +kernel
theorem dX7_comesToPromise_37 : decode cX7_comesToPromise 37 = .ok (.iload_n 1, 1) := by decide +kernel
theorem dX7_comesToPromise_38 : decode cX7_comesToPromise 38 = .ok (.aload_n 0, 1) := by decide +kernel
theorem dX7_comesToPromise_39 : decode cX7_comesToPromise 39 = .ok (.getfield 246, 3) := by decide +kernel
theorem dX7_comesToPromise_42 : decode cX7_comesToPromise 42 = .ok (.iastore, 1) := by decide +kernel
theorem dX7_comesToPromise_43 : decode cX7_comesToPromise 43 = .ok (.aload_n 0, 1) := by decide +kernel
theorem dX7_comesToPromise_44 : decode cX7_comesToPromise 44 = .ok (.dup, 1) := by decide +kernel
theorem dX7_comesToPromise_45 : decode cX7_comesToPromise 45 = .ok (.getfield 246, 3) := by decide +kernel
theorem dX7_comesToPromise_48 : decode cX7_comesToPromise 48 = .ok (.iconst 1, 1) := by decide +kernel
theorem dX7_comesToPromise_49 : decode cX7_comesToPromise 49 = .ok (.iadd, 1) := by decide +kernel
theorem dX7_comesToPromise_50 : decode cX7_comesToPromise 50 = .ok (.putfield 246, 3) := by decide +kernel
theorem dX7_comesToPromise_53 : decode cX7_comesToPromise 53 = .ok (.goto 26, 3) := by decide +kernel
theorem dX7_comesToPromise_56 : decode cX7_comesToPromise 56 = .ok (.aload_n 0, 1) := by decide +kernel
theorem dX7_comesToPromise_57 : decode cX7_comesToPromise 57 = .ok (.iload_n 1, 1) := by decide +kernel
theorem dX7_comesToPromise_58 : decode cX7_comesToPromise 58 = .ok (.aload_n 0, 1) := by decide +kernel
theorem dX7_comesToPromise_59 : decode cX7_comesToPromise 59 = .ok (.getfield 38, 3) := by decide +kernel
theorem dX7_comesToPromise_62 : decode cX7_comesToPromise 62 = .ok (.iload_n 2, 1) := by decide +kernel
theorem dX7_comesToPromise_63 : decode cX7_comesToPromise 63 = .ok (.iaload, 1) := by decide +kernel
theorem dX7_comesToPromise_64 : decode cX7_comesToPromise 64 = .ok (.aload_n 0, 1) := by decide +kernel
theorem dX7_comesToPromise_65 : decode cX7_comesToPromise 65 = .ok (.getfield 41, 3) := by decide +kernel
theorem dX7_comesToPromise_68 : decode cX7_comesToPromise 68 = .ok (.iload_n 2, 1) := by decide +kernel
theorem dX7_comesToPromise_69 : decode cX7_comesToPromise 69 = .ok (.iaload, 1) := by decide +kernel
theorem dX7_comesToPromise_70 : decode cX7_comesToPromise 70 = .ok (.aload_n 0, 1) := by decide +kernel
theorem dX7_comesToPromise_71 : decode cX7_comesToPromise 71 = .ok (.getfield 44, 3) := by decide +kernel
theorem dX7_comesToPromise_74 : decode cX7_comesToPromise 74 = .ok (.iload_n 2, 1) := by decide +kernel
theorem dX7_comesToPromise_75 : decode cX7_comesToPromise 75 = .ok (.iaload, 1) := by decide +kernel
theorem dX7_comesToPromise_76 : decode cX7_comesToPromise 76 = .ok (.invokevirtual 203, 3) := by decide +kernel
theorem dX7_comesToPromise_79 : decode cX7_comesToPromise 79 = .ok (.return_, 1) := by decide +kernel
theorem dX7_delivers_0 : decode cX7_delivers 0 = .ok (.aload_n 0, 1) := by decide +kernel
theorem dX7_delivers_1 : decode cX7_delivers 1 = .ok (.iload_n 1, 1) := by decide +kernel
theorem dX7_delivers_2 : decode cX7_delivers 2 = .ok (.invokevirtual 328, 3) := by decide +kernel
theorem dX7_delivers_5 : decode cX7_delivers 5 = .ok (.aload_n 0, 1) := by decide +kernel
theorem dX7_delivers_6 : decode cX7_delivers 6 = .ok (.getfield 297, 3) := by decide +kernel
theorem dX7_delivers_9 : decode cX7_delivers 9 = .ok (.iconst 1, 1) := by decide +kernel
theorem dX7_delivers_10 : decode cX7_delivers 10 = .ok (.if_icmp .ne 26, 3) := by decide +kernel
theorem dX7_delivers_13 : decode cX7_delivers 13 = .ok (.aload_n 0, 1) := by decide +kernel
theorem dX7_delivers_14 : decode cX7_delivers 14 = .ok (.aload_n 0, 1) := by decide +kernel
theorem dX7_delivers_15 : decode cX7_delivers 15 = .ok (.getfield 306, 3) := by decide +kernel
theorem dX7_delivers_18 : decode cX7_delivers 18 = .ok (.aload_n 0, 1) := by decide +kernel
theorem dX7_delivers_19 : decode cX7_delivers 19 = .ok (.getfield 315, 3) := by decide +kernel
theorem dX7_delivers_22 : decode cX7_delivers 22 = .ok (.aload_n 0, 1) := by decide +kernel
theorem dX7_delivers_23 : decode cX7_delivers 23 = .ok (.getfield 318, 3) := by decide +kernel
theorem dX7_delivers_26 : decode cX7_delivers 26 = .ok (.aload_n 0, 1) := by decide +kernel
theorem dX7_delivers_27 : decode cX7_delivers 27 = .ok (.getfield 321, 3) := by decide +kernel
theorem dX7_delivers_30 : decode cX7_delivers 30 = .ok (.invokevirtual 177, 3) := by decide +kernel
theorem dX7_delivers_33 : decode cX7_delivers 33 = .ok (.goto 21, 3) := by decide +kernel
theorem dX7_delivers_36 : decode cX7_delivers 36 = .ok (.aload_n 0, 1) := by decide +kernel
theorem dX7_delivers_37 : decode cX7_delivers 37 = .ok (.getfield 309, 3) := by decide +kernel
theorem dX7_delivers_40 : decode cX7_delivers 40 = .ok (.ifCond .lt 10, 3) := by decide +kernel
theorem dX7_delivers_43 : decode cX7_delivers 43 = .ok (.aload_n 0, 1) := by decide +kernel
theorem dX7_delivers_44 : decode cX7_delivers 44 = .ok (.invokevirtual 331, 3) := by decide +kernel
theorem dX7_delivers_47 : decode cX7_delivers 47 = .ok (.goto 7, 3) := by decide +kernel
theorem dX7_delivers_50 : decode cX7_delivers 50 = .ok (.aload_n 0, 1) := by decide +kernel
theorem dX7_delivers_51 : decode cX7_delivers 51 = .ok (.invokevirtual 334, 3) := by decide +kernel
theorem dX7_delivers_54 : decode cX7_delivers 54 = .ok (.aload_n 0, 1) := by decide +kernel
theorem dX7_delivers_55 : decode cX7_delivers 55 = .ok (.getfield 297, 3) := by decide +kernel
theorem dX7_delivers_58 : decode cX7_delivers 58 = .ok (.istore_n 2, 1) := by decide +kernel
theorem dX7_delivers_59 : decode cX7_delivers 59 = .ok (.aload_n 0, 1) := by decide +kernel
theorem dX7_delivers_60 : decode cX7_delivers 60 = .ok (.invokevirtual 277, 3) := by decide +kernel
theorem dX7_delivers_63 : decode cX7_delivers 63 = .ok (.iload_n 2, 1) := by decide +kernel
theorem dX7_delivers_64 : decode cX7_delivers 64 = .ok (.ireturn, 1) := by decide +kernel
theorem dX7_areHouses_0 : decode cX7_areHouses 0 = .ok (.iload_n 0, 1) := by decide +kernel
theorem dX7_areHouses_1 : decode cX7_areHouses 1 = .ok (.iconst 0, 1) := by decide +kernel
theorem dX7_areHouses_2 : decode cX7_areHouses 2 = .ok (.iconst 3, 1) := by decide +kernel
theorem dX7_areHouses_3 : decode cX7_areHouses 3 = .ok (.invokestatic 132, 3) := by decide +kernel
theorem dX7_areHouses_6 : decode cX7_areHouses 6 = .ok (.ifCond .eq 16, 3) := by decide +kernel
theorem dX7_areHouses_9 : decode cX7_areHouses 9 = .ok (.iload_n 1, 1) := by decide +kernel
theorem dX7_areHouses_10 : decode cX7_areHouses 10 = .ok (.iconst 0, 1) := by decide +kernel
theorem dX7_areHouses_11 : decode cX7_areHouses 11 = .ok (.iconst 3, 1) := by decide +kernel
theorem dX7_areHouses_12 : decode cX7_areHouses 12 = .ok (.invokestatic 132, 3) := by decide +kernel
theorem dX7_areHouses_15 : decode cX7_areHouses 15 = .ok (.ifCond .eq 7, 3) := by decide +kernel
theorem dX7_areHouses_18 : decode cX7_areHouses 18 = .ok (.iconst 1, 1) := by decide +kernel
theorem dX7_areHouses_19 : decode cX7_areHouses 19 = .ok (.goto 4, 3) := by decide +kernel
theorem dX7_areHouses_22 : decode cX7_areHouses 22 = .ok (.iconst 0, 1) := by decide +kernel
theorem dX7_areHouses_23 : decode cX7_areHouses 23 = .ok (.ireturn, 1) := by decide +kernel
theorem dX7_deliver_0 : decode cX7_deliver 0 = .ok (.iload_n 1, 1) := by decide +kernel
theorem dX7_deliver_1 : decode cX7_deliver 1 = .ok (.iload_n 2, 1) := by decide +kernel
theorem dX7_deliver_2 : decode cX7_deliver 2 = .ok (.invokestatic 337, 3) := by decide +kernel
theorem dX7_deliver_5 : decode cX7_deliver 5 = .ok (.ifCond .ne 5, 3) := by decide +kernel
theorem dX7_deliver_8 : decode cX7_deliver 8 = .ok (.iconst (-1), 1) := by decide +kernel
theorem dX7_deliver_9 : decode cX7_deliver 9 = .ok (.ireturn, 1) := by decide +kernel
theorem dX7_deliver_10 : decode cX7_deliver 10 = .ok (.aload_n 0, 1) := by decide +kernel
theorem dX7_deliver_11 : decode cX7_deliver 11 = .ok (.iload_n 1, 1) := by decide +kernel
theorem dX7_deliver_12 : decode cX7_deliver 12 = .ok (.iload_n 2, 1) := by decide +kernel
theorem dX7_deliver_13 : decode cX7_deliver 13 = .ok (.invokevirtual 340, 3) := by decide +kernel
theorem dX7_deliver_16 : decode cX7_deliver 16 = .ok (.istore_n 3, 1) := by decide +kernel
theorem dX7_deliver_17 : decode cX7_deliver 17 = .ok (.iload_n 3, 1) := by decide +kernel
theorem dX7_deliver_18 : decode cX7_deliver 18 = .ok (.aload_n 0, 1) := by decide +kernel
theorem dX7_deliver_19 : decode cX7_deliver 19 = .ok (.getfield 147, 3) := by decide +kernel
theorem dX7_deliver_22 : decode cX7_deliver 22 = .ok (.if_icmp .ge 11, 3) := by decide +kernel
theorem dX7_deliver_25 : decode cX7_deliver 25 = .ok (.aload_n 0, 1) := by decide +kernel
theorem dX7_deliver_26 : decode cX7_deliver 26 = .ok (.iload_n 3, 1) := by decide +kernel
theorem dX7_deliver_27 : decode cX7_deliver 27 = .ok (.invokevirtual 343, 3) := by decide +kernel
theorem dX7_deliver_30 : decode cX7_deliver 30 = .ok (.goto 5, 3) := by decide +kernel
theorem dX7_deliver_33 : decode cX7_deliver 33 = .ok (.bipush (-9), 2) := by decide +kernel
theorem dX7_deliver_35 : decode cX7_deliver 35 = .ok (.ireturn, 1) := by decide +kernel
theorem dX7_flow_0 : decode cX7_flow 0 = .ok (.iload_n 1, 1) := by decide +kernel
theorem dX7_flow_1 : decode cX7_flow 1 = .ok (.iconst 1, 1) := by decide +kernel
theorem dX7_flow_2 : decode cX7_flow 2 = .ok (.bipush 100, 2) := by decide +kernel
theorem dX7_flow_4 : decode cX7_flow 4 = .ok (.invokestatic 132, 3) := by decide +kernel
theorem dX7_flow_7 : decode cX7_flow 7 = .ok (.ifCond .ne 5, 3) := by decide +kernel
theorem dX7_flow_10 : decode cX7_flow 10 = .ok (.iconst (-1), 1) := by decide +kernel
theorem dX7_flow_11 : decode cX7_flow 11 = .ok (.ireturn, 1) := by decide +kernel
theorem dX7_flow_12 : decode cX7_flow 12 = .ok (.iconst 0, 1) := by decide +kernel
theorem dX7_flow_13 : decode cX7_flow 13 = .ok (.istore_n 2, 1) := by decide +kernel
theorem dX7_flow_14 : decode cX7_flow 14 = .ok (.iload_n 2, 1) := by decide +kernel
theorem dX7_flow_15 : decode cX7_flow 15 = .ok (.iload_n 1, 1) := by decide +kernel
theorem dX7_flow_16 : decode cX7_flow 16 = .ok (.if_icmp .ge 85, 3) := by decide +kernel
theorem dX7_flow_19 : decode cX7_flow 19 = .ok (.aload_n 0, 1) := by decide +kernel
theorem dX7_flow_20 : decode cX7_flow 20 = .ok (.getfield 147, 3) := by decide +kernel
theorem dX7_flow_23 : decode cX7_flow 23 = .ok (.ifCond .le 78, 3) := by decide +kernel
theorem dX7_flow_26 : decode cX7_flow 26 = .ok (.iconst 0, 1) := by decide +kernel
theorem dX7_flow_27 : decode cX7_flow 27 = .ok (.istore_n 3, 1) := by decide +kernel
theorem dX7_flow_28 : decode cX7_flow 28 = .ok (.iconst 1, 1) := by decide +kernel
theorem dX7_flow_29 : decode cX7_flow 29 = .ok (.istore 4, 2) := by decide +kernel
theorem dX7_flow_31 : decode cX7_flow 31 = .ok (.iload 4, 2) := by decide +kernel
theorem dX7_flow_33 : decode cX7_flow 33 = .ok (.aload_n 0, 1) := by decide +kernel
theorem dX7_flow_34 : decode cX7_flow 34 = .ok (.getfield 147, 3) := by decide +kernel
theorem dX7_flow_37 : decode cX7_flow 37 = .ok (.if_icmp .ge 51, 3) := by decide +kernel
theorem dX7_flow_40 : decode cX7_flow 40 = .ok (.iconst 4, 1) := by decide +kernel
theorem dX7_flow_41 : decode cX7_flow 41 = .ok (.aload_n 0, 1) := by decide +kernel
theorem dX7_flow_42 : decode cX7_flow 42 = .ok (.getfield 92, 3) := by decide +kernel
theorem dX7_flow_45 : decode cX7_flow 45 = .ok (.iload 4, 2) := by decide +kernel
theorem dX7_flow_47 : decode cX7_flow 47 = .ok (.iaload, 1) := by decide +kernel
theorem dX7_flow_48 : decode cX7_flow 48 = .ok (.imul, 1) := by decide +kernel
theorem dX7_flow_49 : decode cX7_flow 49 = .ok (.aload_n 0, 1) := by decide +kernel
theorem dX7_flow_50 : decode cX7_flow 50 = .ok (.getfield 95, 3) := by decide +kernel
theorem dX7_flow_53 : decode cX7_flow 53 = .ok (.iload 4, 2) := by decide +kernel
theorem dX7_flow_55 : decode cX7_flow 55 = .ok (.iaload, 1) := by decide +kernel
theorem dX7_flow_56 : decode cX7_flow 56 = .ok (.iadd, 1) := by decide +kernel
theorem dX7_flow_57 : decode cX7_flow 57 = .ok (.iconst 4, 1) := by decide +kernel
theorem dX7_flow_58 : decode cX7_flow 58 = .ok (.aload_n 0, 1) := by decide +kernel
theorem dX7_flow_59 : decode cX7_flow 59 = .ok (.getfield 92, 3) := by decide +kernel
theorem dX7_flow_62 : decode cX7_flow 62 = .ok (.iload_n 3, 1) := by decide +kernel
theorem dX7_flow_63 : decode cX7_flow 63 = .ok (.iaload, 1) := by decide +kernel
theorem dX7_flow_64 : decode cX7_flow 64 = .ok (.imul, 1) := by decide +kernel
theorem dX7_flow_65 : decode cX7_flow 65 = .ok (.aload_n 0, 1) := by decide +kernel
theorem dX7_flow_66 : decode cX7_flow 66 = .ok (.getfield 95, 3) := by decide +kernel
theorem dX7_flow_69 : decode cX7_flow 69 = .ok (.iload_n 3, 1) := by decide +kernel
theorem dX7_flow_70 : decode cX7_flow 70 = .ok (.iaload, 1) := by decide +kernel
theorem dX7_flow_71 : decode cX7_flow 71 = .ok (.iadd, 1) := by decide +kernel
theorem dX7_flow_72 : decode cX7_flow 72 = .ok (.if_icmp .ge 8, 3) := by decide +kernel
theorem dX7_flow_75 : decode cX7_flow 75 = .ok (.iload 4, 2) := by decide +kernel
theorem dX7_flow_77 : decode cX7_flow 77 = .ok (.goto 4, 3) := by decide +kernel
theorem dX7_flow_80 : decode cX7_flow 80 = .ok (.iload_n 3, 1) := by decide +kernel
theorem dX7_flow_81 : decode cX7_flow 81 = .ok (.istore_n 3, 1) := by decide +kernel
theorem dX7_flow_82 : decode cX7_flow 82 = .ok (.iinc 4 1, 3) := by decide +kernel
theorem dX7_flow_85 : decode cX7_flow 85 = .ok (.goto (-54), 3) := by decide +kernel
theorem dX7_flow_88 : decode cX7_flow 88 = .ok (.aload_n 0, 1) := by decide +kernel
theorem dX7_flow_89 : decode cX7_flow 89 = .ok (.iload_n 3, 1) := by decide +kernel
theorem dX7_flow_90 : decode cX7_flow 90 = .ok (.invokevirtual 343, 3) := by decide +kernel
theorem dX7_flow_93 : decode cX7_flow 93 = .ok (.istore 4, 2) := by decide +kernel
theorem dX7_flow_95 : decode cX7_flow 95 = .ok (.iinc 2 1, 3) := by decide +kernel
theorem dX7_flow_98 : decode cX7_flow 98 = .ok (.goto (-84), 3) := by decide +kernel
theorem dX7_flow_101 : decode cX7_flow 101 = .ok (.iload_n 2, 1) := by decide +kernel
theorem dX7_flow_102 : decode cX7_flow 102 = .ok (.ireturn, 1) := by decide +kernel
theorem dX7_losesAll_0 : decode cX7_losesAll 0 = .ok (.iconst 0, 1) := by decide +kernel
theorem dX7_losesAll_1 : decode cX7_losesAll 1 = .ok (.istore_n 3, 1) := by decide +kernel
theorem dX7_losesAll_2 : decode cX7_losesAll 2 = .ok (.aload_n 0, 1) := by decide +kernel
theorem dX7_losesAll_3 : decode cX7_losesAll 3 = .ok (.iload_n 1, 1) := by decide +kernel
theorem dX7_losesAll_4 : decode cX7_losesAll 4 = .ok (.iload_n 2, 1) := by decide +kernel
theorem dX7_losesAll_5 : decode cX7_losesAll 5 = .ok (.invokevirtual 340, 3) := by decide +kernel
theorem dX7_losesAll_8 : decode cX7_losesAll 8 = .ok (.istore 4, 2) := by decide +kernel
theorem dX7_losesAll_10 : decode cX7_losesAll 10 = .ok (.iload 4, 2) := by decide +kernel
theorem dX7_losesAll_12 : decode cX7_losesAll 12 = .ok (.aload_n 0, 1) := by decide +kernel
theorem dX7_losesAll_13 : decode cX7_losesAll 13 = .ok (.getfield 147, 3) := by decide +kernel
theorem dX7_losesAll_16 : decode cX7_losesAll 16 = .ok (.if_icmp .ge 68, 3) := by decide +kernel
theorem dX7_losesAll_19 : decode cX7_losesAll 19 = .ok (.aload_n 0, 1) := by decide +kernel
theorem dX7_losesAll_20 : decode cX7_losesAll 20 = .ok (.iload 4, 2) := by decide +kernel
theorem dX7_losesAll_22 : decode cX7_losesAll 22 = .ok (.invokevirtual 328, 3) := by decide +kernel
theorem dX7_losesAll_25 : decode cX7_losesAll 25 = .ok (.aload_n 0, 1) := by decide +kernel
theorem dX7_losesAll_26 : decode cX7_losesAll 26 = .ok (.getfield 297, 3) := by decide +kernel
theorem dX7_losesAll_29 : decode cX7_losesAll 29 = .ok (.ifCond .ne 15, 3) := by decide +kernel
theorem dX7_losesAll_32 : decode cX7_losesAll 32 = .ok (.aload_n 0, 1) := by decide +kernel
theorem dX7_losesAll_33 : decode cX7_losesAll 33 = .ok (.aload_n 0, 1) := by decide +kernel
theorem dX7_losesAll_34 : decode cX7_losesAll 34 = .ok (.getfield 306, 3) := by decide +kernel
theorem dX7_losesAll_37 : decode cX7_losesAll 37 = .ok (.iload_n 1, 1) := by decide +kernel
theorem dX7_losesAll_38 : decode cX7_losesAll 38 = .ok (.invokevirtual 188, 3) := by decide +kernel
theorem dX7_losesAll_41 : decode cX7_losesAll 41 = .ok (.goto 25, 3) := by decide +kernel
theorem dX7_losesAll_44 : decode cX7_losesAll 44 = .ok (.aload_n 0, 1) := by decide +kernel
theorem dX7_losesAll_45 : decode cX7_losesAll 45 = .ok (.getfield 297, 3) := by decide +kernel
theorem dX7_losesAll_48 : decode cX7_losesAll 48 = .ok (.iconst 1, 1) := by decide +kernel
theorem dX7_losesAll_49 : decode cX7_losesAll 49 = .ok (.if_icmp .ne 17, 3) := by decide +kernel
theorem dX7_losesAll_52 : decode cX7_losesAll 52 = .ok (.aload_n 0, 1) := by decide +kernel
theorem dX7_losesAll_53 : decode cX7_losesAll 53 = .ok (.aload_n 0, 1) := by decide +kernel
theorem dX7_losesAll_54 : decode cX7_losesAll 54 = .ok (.getfield 306, 3) := by decide +kernel
theorem dX7_losesAll_57 : decode cX7_losesAll 57 = .ok (.iconst 3, 1) := by decide +kernel
theorem dX7_losesAll_58 : decode cX7_losesAll 58 = .ok (.iconst 1, 1) := by decide +kernel
theorem dX7_losesAll_59 : decode cX7_losesAll 59 = .ok (.aload_n 0, 1) := by decide +kernel
theorem dX7_losesAll_60 : decode cX7_losesAll 60 = .ok (.getfield 321, 3) := by decide +kernel
theorem dX7_losesAll_63 : decode cX7_losesAll 63 = .ok (.invokevirtual 177, 3) := by decide +kernel
theorem dX7_losesAll_66 : decode cX7_losesAll 66 = .ok (.iinc 3 1, 3) := by decide +kernel
theorem dX7_losesAll_69 : decode cX7_losesAll 69 = .ok (.aload_n 0, 1) := by decide +kernel
theorem dX7_losesAll_70 : decode cX7_losesAll 70 = .ok (.invokevirtual 277, 3) := by decide +kernel
theorem dX7_losesAll_73 : decode cX7_losesAll 73 = .ok (.aload_n 0, 1) := by decide +kernel
theorem dX7_losesAll_74 : decode cX7_losesAll 74 = .ok (.iload_n 1, 1) := by decide +kernel
theorem dX7_losesAll_75 : decode cX7_losesAll 75 = .ok (.iload_n 2, 1) := by decide +kernel
theorem dX7_losesAll_76 : decode cX7_losesAll 76 = .ok (.invokevirtual 340, 3) := by decide +kernel
theorem dX7_losesAll_79 : decode cX7_losesAll 79 = .ok (.istore 4, 2) := by decide +kernel
theorem dX7_losesAll_81 : decode cX7_losesAll 81 = .ok (.goto (-71), 3) := by decide +kernel
theorem dX7_losesAll_84 : decode cX7_losesAll 84 = .ok (.iload_n 3, 1) := by decide +kernel
theorem dX7_losesAll_85 : decode cX7_losesAll 85 = .ok (.ireturn, 1) := by decide +kernel
theorem dX7_cut_0 : decode cX7_cut 0 = .ok (.iload_n 1, 1) := by decide +kernel
theorem dX7_cut_1 : decode cX7_cut 1 = .ok (.iload_n 2, 1) := by decide +kernel
theorem dX7_cut_2 : decode cX7_cut 2 = .ok (.invokestatic 337, 3) := by decide +kernel
theorem dX7_cut_5 : decode cX7_cut 5 = .ok (.ifCond .eq 8, 3) := by decide +kernel
theorem dX7_cut_8 : decode cX7_cut 8 = .ok (.iload_n 1, 1) := by decide +kernel
theorem dX7_cut_9 : decode cX7_cut 9 = .ok (.iload_n 2, 1) := by decide +kernel
theorem dX7_cut_10 : decode cX7_cut 10 = .ok (.if_icmp .ne 5, 3) := by decide +kernel
theorem dX7_cut_13 : decode cX7_cut 13 = .ok (.iconst (-1), 1) := by decide +kernel
theorem dX7_cut_14 : decode cX7_cut 14 = .ok (.ireturn, 1) := by decide +kernel
theorem dX7_cut_15 : decode cX7_cut 15 = .ok (.aload_n 0, 1) := by decide +kernel
theorem dX7_cut_16 : decode cX7_cut 16 = .ok (.getfield 116, 3) := by decide +kernel
theorem dX7_cut_19 : decode cX7_cut 19 = .ok (.iconst 4, 1) := by decide +kernel
theorem dX7_cut_20 : decode cX7_cut 20 = .ok (.iload_n 1, 1) := by decide +kernel
theorem dX7_cut_21 : decode cX7_cut 21 = .ok (.imul, 1) := by decide +kernel
theorem dX7_cut_22 : decode cX7_cut 22 = .ok (.iload_n 2, 1) := by decide +kernel
theorem dX7_cut_23 : decode cX7_cut 23 = .ok (.iadd, 1) := by decide +kernel
theorem dX7_cut_24 : decode cX7_cut 24 = .ok (.baload, 1) := by decide +kernel
theorem dX7_cut_25 : decode cX7_cut 25 = .ok (.ifCond .eq 6, 3) := by decide +kernel
theorem dX7_cut_28 : decode cX7_cut 28 = .ok (.bipush (-2), 2) := by decide +kernel
theorem dX7_cut_30 : decode cX7_cut 30 = .ok (.ireturn, 1) := by decide +kernel
theorem dX7_cut_31 : decode cX7_cut 31 = .ok (.aload_n 0, 1) := by decide +kernel
theorem dX7_cut_32 : decode cX7_cut 32 = .ok (.getfield 116, 3) := by decide +kernel
theorem dX7_cut_35 : decode cX7_cut 35 = .ok (.iconst 4, 1) := by decide +kernel
theorem dX7_cut_36 : decode cX7_cut 36 = .ok (.iload_n 1, 1) := by decide +kernel
theorem dX7_cut_37 : decode cX7_cut 37 = .ok (.imul, 1) := by decide +kernel
theorem dX7_cut_38 : decode cX7_cut 38 = .ok (.iload_n 2, 1) := by decide +kernel
theorem dX7_cut_39 : decode cX7_cut 39 = .ok (.iadd, 1) := by decide +kernel
theorem dX7_cut_40 : decode cX7_cut 40 = .ok (.iconst 1, 1) := by decide +kernel
theorem dX7_cut_41 : decode cX7_cut 41 = .ok (.bastore, 1) := by decide +kernel
theorem dX7_cut_42 : decode cX7_cut 42 = .ok (.aload_n 0, 1) := by decide +kernel
theorem dX7_cut_43 : decode cX7_cut 43 = .ok (.getfield 116, 3) := by decide +kernel
theorem dX7_cut_46 : decode cX7_cut 46 = .ok (.iconst 4, 1) := by decide +kernel
theorem dX7_cut_47 : decode cX7_cut 47 = .ok (.iload_n 2, 1) := by decide +kernel
theorem dX7_cut_48 : decode cX7_cut 48 = .ok (.imul, 1) := by decide +kernel
theorem dX7_cut_49 : decode cX7_cut 49 = .ok (.iload_n 1, 1) := by decide +kernel
theorem dX7_cut_50 : decode cX7_cut 50 = .ok (.iadd, 1) := by decide +kernel
theorem dX7_cut_51 : decode cX7_cut 51 = .ok (.iconst 1, 1) := by decide +kernel
theorem dX7_cut_52 : decode cX7_cut 52 = .ok (.bastore, 1) := by decide +kernel
theorem dX7_cut_53 : decode cX7_cut 53 = .ok (.iload_n 1, 1) := by decide +kernel
theorem dX7_cut_54 : decode cX7_cut 54 = .ok (.iload_n 2, 1) := by decide +kernel
theorem dX7_cut_55 : decode cX7_cut 55 = .ok (.if_icmp .ge 7, 3) := by decide +kernel
theorem dX7_cut_58 : decode cX7_cut 58 = .ok (.iload_n 1, 1) := by decide +kernel
theorem dX7_cut_59 : decode cX7_cut 59 = .ok (.goto 4, 3) := by decide +kernel
theorem dX7_cut_62 : decode cX7_cut 62 = .ok (.iload_n 2, 1) := by decide +kernel
theorem dX7_cut_63 : decode cX7_cut 63 = .ok (.istore_n 3, 1) := by decide +kernel
theorem dX7_cut_64 : decode cX7_cut 64 = .ok (.iload_n 1, 1) := by decide +kernel
theorem dX7_cut_65 : decode cX7_cut 65 = .ok (.iload_n 2, 1) := by decide +kernel
theorem dX7_cut_66 : decode cX7_cut 66 = .ok (.if_icmp .ge 7, 3) := by decide +kernel
theorem dX7_cut_69 : decode cX7_cut 69 = .ok (.iload_n 2, 1) := by decide +kernel
theorem dX7_cut_70 : decode cX7_cut 70 = .ok (.goto 4, 3) := by decide +kernel
theorem dX7_cut_73 : decode cX7_cut 73 = .ok (.iload_n 1, 1) := by decide +kernel
theorem dX7_cut_74 : decode cX7_cut 74 = .ok (.istore 4, 2) := by decide +kernel
theorem dX7_cut_76 : decode cX7_cut 76 = .ok (.aload_n 0, 1) := by decide +kernel
theorem dX7_cut_77 : decode cX7_cut 77 = .ok (.iload_n 3, 1) := by decide +kernel
theorem dX7_cut_78 : decode cX7_cut 78 = .ok (.iload 4, 2) := by decide +kernel
theorem dX7_cut_80 : decode cX7_cut 80 = .ok (.invokevirtual 346, 3) := by decide +kernel
theorem dX7_cut_83 : decode cX7_cut 83 = .ok (.istore 5, 2) := by decide +kernel
theorem dX7_cut_85 : decode cX7_cut 85 = .ok (.iload 5, 2) := by decide +kernel
theorem dX7_cut_87 : decode cX7_cut 87 = .ok (.aload_n 0, 1) := by decide +kernel
theorem dX7_cut_88 : decode cX7_cut 88 = .ok (.iload 4, 2) := by decide +kernel
theorem dX7_cut_90 : decode cX7_cut 90 = .ok (.iload_n 3, 1) := by decide +kernel
theorem dX7_cut_91 : decode cX7_cut 91 = .ok (.invokevirtual 346, 3) := by decide +kernel
theorem dX7_cut_94 : decode cX7_cut 94 = .ok (.iadd, 1) := by decide +kernel
theorem dX7_cut_95 : decode cX7_cut 95 = .ok (.ireturn, 1) := by decide +kernel
theorem dX7_again_0 : decode cX7_again 0 = .ok (.iload_n 1, 1) := by decide +kernel
theorem dX7_again_1 : decode cX7_again 1 = .ok (.iload_n 2, 1) := by decide +kernel
theorem dX7_again_2 : decode cX7_again 2 = .ok (.invokestatic 337, 3) := by decide +kernel
theorem dX7_again_5 : decode cX7_again 5 = .ok (.ifCond .eq 8, 3) := by decide +kernel
theorem dX7_again_8 : decode cX7_again 8 = .ok (.iload_n 1, 1) := by decide +kernel
theorem dX7_again_9 : decode cX7_again 9 = .ok (.iload_n 2, 1) := by decide +kernel
theorem dX7_again_10 : decode cX7_again 10 = .ok (.if_icmp .ne 5, 3) := by decide +kernel
theorem dX7_again_13 : decode cX7_again 13 = .ok (.iconst (-1), 1) := by decide +kernel
theorem dX7_again_14 : decode cX7_again 14 = .ok (.ireturn, 1) := by decide +kernel
theorem dX7_again_15 : decode cX7_again 15 = .ok (.aload_n 0, 1) := by decide +kernel
theorem dX7_again_16 : decode cX7_again 16 = .ok (.getfield 116, 3) := by decide +kernel
theorem dX7_again_19 : decode cX7_again 19 = .ok (.iconst 4, 1) := by decide +kernel
theorem dX7_again_20 : decode cX7_again 20 = .ok (.iload_n 1, 1) := by decide +kernel
theorem dX7_again_21 : decode cX7_again 21 = .ok (.imul, 1) := by decide +kernel
theorem dX7_again_22 : decode cX7_again 22 = .ok (.iload_n 2, 1) := by decide +kernel
theorem dX7_again_23 : decode cX7_again 23 = .ok (.iadd, 1) := by decide +kernel
theorem dX7_again_24 : decode cX7_again 24 = .ok (.baload, 1) := by decide +kernel
theorem dX7_again_25 : decode cX7_again 25 = .ok (.ifCond .ne 6, 3) := by decide +kernel
theorem dX7_again_28 : decode cX7_again 28 = .ok (.bipush (-2), 2) := by decide +kernel
theorem dX7_again_30 : decode cX7_again 30 = .ok (.ireturn, 1) := by decide +kernel
theorem dX7_again_31 : decode cX7_again 31 = .ok (.aload_n 0, 1) := by decide +kernel
theorem dX7_again_32 : decode cX7_again 32 = .ok (.getfield 116, 3) := by decide +kernel
theorem dX7_again_35 : decode cX7_again 35 = .ok (.iconst 4, 1) := by decide +kernel
theorem dX7_again_36 : decode cX7_again 36 = .ok (.iload_n 1, 1) := by decide +kernel
theorem dX7_again_37 : decode cX7_again 37 = .ok (.imul, 1) := by decide +kernel
theorem dX7_again_38 : decode cX7_again 38 = .ok (.iload_n 2, 1) := by decide +kernel
theorem dX7_again_39 : decode cX7_again 39 = .ok (.iadd, 1) := by decide +kernel
theorem dX7_again_40 : decode cX7_again 40 = .ok (.iconst 0, 1) := by decide +kernel
theorem dX7_again_41 : decode cX7_again 41 = .ok (.bastore, 1) := by decide +kernel
theorem dX7_again_42 : decode cX7_again 42 = .ok (.aload_n 0, 1) := by decide +kernel
theorem dX7_again_43 : decode cX7_again 43 = .ok (.getfield 116, 3) := by decide +kernel
theorem dX7_again_46 : decode cX7_again 46 = .ok (.iconst 4, 1) := by decide +kernel
theorem dX7_again_47 : decode cX7_again 47 = .ok (.iload_n 2, 1) := by decide +kernel
theorem dX7_again_48 : decode cX7_again 48 = .ok (.imul, 1) := by decide +kernel
theorem dX7_again_49 : decode cX7_again 49 = .ok (.iload_n 1, 1) := by decide +kernel
theorem dX7_again_50 : decode cX7_again 50 = .ok (.iadd, 1) := by decide +kernel
theorem dX7_again_51 : decode cX7_again 51 = .ok (.iconst 0, 1) := by decide +kernel
theorem dX7_again_52 : decode cX7_again 52 = .ok (.bastore, 1) := by decide +kernel
theorem dX7_again_53 : decode cX7_again 53 = .ok (.iconst 1, 1) := by decide +kernel
theorem dX7_again_54 : decode cX7_again 54 = .ok (.ireturn, 1) := by decide +kernel
theorem dX7_wire_0 : decode cX7_wire 0 = .ok (.iload_n 1, 1) := by decide +kernel
theorem dX7_wire_1 : decode cX7_wire 1 = .ok (.iload_n 2, 1) := by decide +kernel
theorem dX7_wire_2 : decode cX7_wire 2 = .ok (.invokestatic 337, 3) := by decide +kernel
theorem dX7_wire_5 : decode cX7_wire 5 = .ok (.ifCond .ne 5, 3) := by decide +kernel
theorem dX7_wire_8 : decode cX7_wire 8 = .ok (.iconst (-1), 1) := by decide +kernel
theorem dX7_wire_9 : decode cX7_wire 9 = .ok (.ireturn, 1) := by decide +kernel
theorem dX7_wire_10 : decode cX7_wire 10 = .ok (.iconst 0, 1) := by decide +kernel
theorem dX7_wire_11 : decode cX7_wire 11 = .ok (.istore_n 3, 1) := by decide +kernel
theorem dX7_wire_12 : decode cX7_wire 12 = .ok (.iconst 0, 1) := by decide +kernel
theorem dX7_wire_13 : decode cX7_wire 13 = .ok (.istore 4, 2) := by decide +kernel
theorem dX7_wire_15 : decode cX7_wire 15 = .ok (.iload 4, 2) := by decide +kernel
theorem dX7_wire_17 : decode cX7_wire 17 = .ok (.aload_n 0, 1) := by decide +kernel
theorem dX7_wire_18 : decode cX7_wire 18 = .ok (.getfield 147, 3) := by decide +kernel
theorem dX7_wire_21 : decode cX7_wire 21 = .ok (.if_icmp .ge 39, 3) := by decide +kernel
theorem dX7_wire_24 : decode cX7_wire 24 = .ok (.iload_n 3, 1) := by decide +kernel
theorem dX7_wire_25 : decode cX7_wire 25 = .ok (.aload_n 0, 1) := by decide +kernel
theorem dX7_wire_26 : decode cX7_wire 26 = .ok (.getfield 92, 3) := by decide +kernel
theorem dX7_wire_29 : decode cX7_wire 29 = .ok (.iload 4, 2) := by decide +kernel
theorem dX7_wire_31 : decode cX7_wire 31 = .ok (.iaload, 1) := by decide +kernel
theorem dX7_wire_32 : decode cX7_wire 32 = .ok (.iload_n 1, 1) := by decide +kernel
theorem dX7_wire_33 : decode cX7_wire 33 = .ok (.if_icmp .ne 18, 3) := by decide +kernel
theorem dX7_wire_36 : decode cX7_wire 36 = .ok (.aload_n 0, 1) := by decide +kernel
theorem dX7_wire_37 : decode cX7_wire 37 = .ok (.getfield 95, 3) := by decide +kernel
theorem dX7_wire_40 : decode cX7_wire 40 = .ok (.iload 4, 2) := by decide +kernel
theorem dX7_wire_42 : decode cX7_wire 42 = .ok (.iaload, 1) := by decide +kernel
theorem dX7_wire_43 : decode cX7_wire 43 = .ok (.iload_n 2, 1) := by decide +kernel
theorem dX7_wire_44 : decode cX7_wire 44 = .ok (.if_icmp .ne 7, 3) := by decide +kernel
theorem dX7_wire_47 : decode cX7_wire 47 = .ok (.iconst 1, 1) := by decide +kernel
theorem dX7_wire_48 : decode cX7_wire 48 = .ok (.goto 4, 3) := by decide +kernel
theorem dX7_wire_51 : decode cX7_wire 51 = .ok (.iconst 0, 1) := by decide +kernel
theorem dX7_wire_52 : decode cX7_wire 52 = .ok (.iadd, 1) := by decide +kernel
theorem dX7_wire_53 : decode cX7_wire 53 = .ok (.istore_n 3, 1) := by decide +kernel
theorem dX7_wire_54 : decode cX7_wire 54 = .ok (.iinc 4 1, 3) := by decide +kernel
theorem dX7_wire_57 : decode cX7_wire 57 = .ok (.goto (-42), 3) := by decide +kernel
theorem dX7_wire_60 : decode cX7_wire 60 = .ok (.iload_n 3, 1) := by decide +kernel
theorem dX7_wire_61 : decode cX7_wire 61 = .ok (.ireturn, 1) := by decide +kernel
theorem dX7_letterOf_0 : decode cX7_letterOf 0 = .ok (.iload_n 3, 1) := by decide +kernel
theorem dX7_letterOf_1 : decode cX7_letterOf 1 = .ok (.istore 4, 2) := by decide +kernel
theorem dX7_letterOf_3 : decode cX7_letterOf 3 = .ok (.iconst 0, 1) := by decide +kernel
theorem dX7_letterOf_4 : decode cX7_letterOf 4 = .ok (.istore 5, 2) := by decide +kernel
theorem dX7_letterOf_6 : decode cX7_letterOf 6 = .ok (.iload 5, 2) := by decide +kernel
theorem dX7_letterOf_8 : decode cX7_letterOf 8 = .ok (.aload_n 0, 1) := by decide +kernel
theorem dX7_letterOf_9 : decode cX7_letterOf 9 = .ok (.getfield 147, 3) := by decide +kernel
theorem dX7_letterOf_12 : decode cX7_letterOf 12 = .ok (.if_icmp .ge 46, 3) := by decide +kernel
theorem dX7_letterOf_15 : decode cX7_letterOf 15 = .ok (.iload_n 3, 1) := by decide +kernel
theorem dX7_letterOf_16 : decode cX7_letterOf 16 = .ok (.ifCond .lt 42, 3) := by decide +kernel
theorem dX7_letterOf_19 : decode cX7_letterOf 19 = .ok (.aload_n 0, 1) := by decide +kernel
theorem dX7_letterOf_20 : decode cX7_letterOf 20 = .ok (.getfield 92, 3) := by decide +kernel
theorem dX7_letterOf_23 : decode cX7_letterOf 23 = .ok (.iload 5, 2) := by decide +kernel
theorem dX7_letterOf_25 : decode cX7_letterOf 25 = .ok (.iaload, 1) := by decide +kernel
theorem dX7_letterOf_26 : decode cX7_letterOf 26 = .ok (.iload_n 1, 1) := by decide +kernel
theorem dX7_letterOf_27 : decode cX7_letterOf 27 = .ok (.if_icmp .ne 25, 3) := by decide +kernel
theorem dX7_letterOf_30 : decode cX7_letterOf 30 = .ok (.aload_n 0, 1) := by decide +kernel
theorem dX7_letterOf_31 : decode cX7_letterOf 31 = .ok (.getfield 95, 3) := by decide +kernel
theorem dX7_letterOf_34 : decode cX7_letterOf 34 = .ok (.iload 5, 2) := by decide +kernel
theorem dX7_letterOf_36 : decode cX7_letterOf 36 = .ok (.iaload, 1) := by decide +kernel
theorem dX7_letterOf_37 : decode cX7_letterOf 37 = .ok (.iload_n 2, 1) := by decide +kernel
theorem dX7_letterOf_38 : decode cX7_letterOf 38 = .ok (.if_icmp .ne 14, 3) := by decide +kernel
theorem dX7_letterOf_41 : decode cX7_letterOf 41 = .ok (.iload 4, 2) := by decide +kernel
theorem dX7_letterOf_43 : decode cX7_letterOf 43 = .ok (.ifCond .ne 6, 3) := by decide +kernel
theorem dX7_letterOf_46 : decode cX7_letterOf 46 = .ok (.iload 5, 2) := by decide +kernel
theorem dX7_letterOf_48 : decode cX7_letterOf 48 = .ok (.ireturn, 1) := by decide +kernel
theorem dX7_letterOf_49 : decode cX7_letterOf 49 = .ok (.iinc 4 (-1), 3) := by decide +kernel
theorem dX7_letterOf_52 : decode cX7_letterOf 52 = .ok (.iinc 5 1, 3) := by decide +kernel
theorem dX7_letterOf_55 : decode cX7_letterOf 55 = .ok (.goto (-49), 3) := by decide +kernel
theorem dX7_letterOf_58 : decode cX7_letterOf 58 = .ok (.iconst (-1), 1) := by decide +kernel
theorem dX7_letterOf_59 : decode cX7_letterOf 59 = .ok (.ireturn, 1) := by decide +kernel
theorem dX7_letter_0 : decode cX7_letter 0 = .ok (.iload_n 1, 1) := by decide +kernel
theorem dX7_letter_1 : decode cX7_letter 1 = .ok (.iload_n 2, 1) := by decide +kernel
theorem dX7_letter_2 : decode cX7_letter 2 = .ok (.invokestatic 337, 3) := by decide +kernel
theorem dX7_letter_5 : decode cX7_letter 5 = .ok (.ifCond .eq 13, 3) := by decide +kernel
theorem dX7_letter_8 : decode cX7_letter 8 = .ok (.iload 4, 2) := by decide +kernel
theorem dX7_letter_10 : decode cX7_letter 10 = .ok (.iconst 0, 1) := by decide +kernel
theorem dX7_letter_11 : decode cX7_letter 11 = .ok (.iconst 5, 1) := by decide +kernel
theorem dX7_letter_12 : decode cX7_letter 12 = .ok (.invokestatic 132, 3) := by decide +kernel
theorem dX7_letter_15 : decode cX7_letter 15 = .ok (.ifCond .ne 5, 3) := by decide +kernel
theorem dX7_letter_18 : decode cX7_letter 18 = .ok (.iconst (-1), 1) := by decide +kernel
theorem dX7_letter_19 : decode cX7_letter 19 = .ok (.ireturn, 1) := by decide +kernel
theorem dX7_letter_20 : decode cX7_letter 20 = .ok (.aload_n 0, 1) := by decide +kernel
theorem dX7_letter_21 : decode cX7_letter 21 = .ok (.iload_n 1, 1) := by decide +kernel
theorem dX7_letter_22 : decode cX7_letter 22 = .ok (.iload_n 2, 1) := by decide +kernel
theorem dX7_letter_23 : decode cX7_letter 23 = .ok (.iload_n 3, 1) := by decide +kernel
theorem dX7_letter_24 : decode cX7_letter 24 = .ok (.invokevirtual 349, 3) := by decide +kernel
theorem dX7_letter_27 : decode cX7_letter 27 = .ok (.istore 5, 2) := by decide +kernel
theorem dX7_letter_29 : decode cX7_letter 29 = .ok (.iload 5, 2) := by decide +kernel
theorem dX7_letter_31 : decode cX7_letter 31 = .ok (.ifCond .ge 6, 3) := by decide +kernel
theorem dX7_letter_34 : decode cX7_letter 34 = .ok (.bipush (-9), 2) := by decide +kernel
theorem dX7_letter_36 : decode cX7_letter 36 = .ok (.ireturn, 1) := by decide +kernel
theorem dX7_letter_37 : decode cX7_letter 37 = .ok (.aload_n 0, 1) := by decide +kernel
theorem dX7_letter_38 : decode cX7_letter 38 = .ok (.getfield 98, 3) := by decide +kernel
theorem dX7_letter_41 : decode cX7_letter 41 = .ok (.iload 5, 2) := by decide +kernel
theorem dX7_letter_43 : decode cX7_letter 43 = .ok (.iaload, 1) := by decide +kernel
theorem dX7_letter_44 : decode cX7_letter 44 = .ok (.istore 6, 2) := by decide +kernel
theorem dX7_letter_46 : decode cX7_letter 46 = .ok (.iload 4, 2) := by decide +kernel
theorem dX7_letter_48 : decode cX7_letter 48 = .ok (.tableswitch 147 0 4 #[36, 44, 47, 90, 139], 36) := by decide +kernel
theorem dX7_letter_84 : decode cX7_letter 84 = .ok (.aload_n 0, 1) := by decide +kernel
theorem dX7_letter_85 : decode cX7_letter 85 = .ok (.getfield 89, 3) := by decide +kernel
theorem dX7_letter_88 : decode cX7_letter 88 = .ok (.iload 5, 2) := by decide +kernel
theorem dX7_letter_90 : decode cX7_letter 90 = .ok (.iaload, 1) := by decide +kernel
theorem dX7_letter_91 : decode cX7_letter 91 = .ok (.ireturn, 1) := by decide +kernel
theorem dX7_letter_92 : decode cX7_letter 92 = .ok (.iload 6, 2) := by decide +kernel
theorem dX7_letter_94 : decode cX7_letter 94 = .ok (.ireturn, 1) := by decide +kernel
theorem dX7_letter_95 : decode cX7_letter 95 = .ok (.aload_n 0, 1) := by decide +kernel
theorem dX7_letter_96 : decode cX7_letter 96 = .ok (.getfield 89, 3) := by decide +kernel
theorem dX7_letter_99 : decode cX7_letter 99 = .ok (.iload 5, 2) := by decide +kernel
theorem dX7_letter_101 : decode cX7_letter 101 = .ok (.iaload, 1) := by decide +kernel
theorem dX7_letter_102 : decode cX7_letter 102 = .ok (.ifCond .ne 13, 3) := by decide +kernel
theorem dX7_letter_105 : decode cX7_letter 105 = .ok (.aload_n 0, 1) := by decide +kernel
theorem dX7_letter_106 : decode cX7_letter 106 = .ok (.getfield 59, 3) := by decide +kernel
theorem dX7_letter_109 : decode cX7_letter 109 = .ok (.iload 6, 2) := by decide +kernel
theorem dX7_letter_111 : decode cX7_letter 111 = .ok (.iaload, 1) := by decide +kernel
theorem dX7_letter_112 : decode cX7_letter 112 = .ok (.goto 25, 3) := by decide +kernel
theorem dX7_letter_115 : decode cX7_letter 115 = .ok (.aload_n 0, 1) := by decide +kernel
theorem dX7_letter_116 : decode cX7_letter 116 = .ok (.getfield 89, 3) := by decide +kernel
theorem dX7_letter_119 : decode cX7_letter 119 = .ok (.iload 5, 2) := by decide +kernel
theorem dX7_letter_121 : decode cX7_letter 121 = .ok (.iaload, 1) := by decide +kernel
theorem dX7_letter_122 : decode cX7_letter 122 = .ok (.iconst 1, 1) := by decide +kernel
theorem dX7_letter_123 : decode cX7_letter 123 = .ok (.if_icmp .ne 13, 3) := by decide +kernel
theorem dX7_letter_126 : decode cX7_letter 126 = .ok (.aload_n 0, 1) := by decide +kernel
theorem dX7_letter_127 : decode cX7_letter 127 = .ok (.getfield 107, 3) := by decide +kernel
theorem dX7_letter_130 : decode cX7_letter 130 = .ok (.iload 5, 2) := by decide +kernel
theorem dX7_letter_132 : decode cX7_letter 132 = .ok (.iaload, 1) := by decide +kernel
theorem dX7_letter_133 : decode cX7_letter 133 = .ok (.goto 4, 3) := by decide +kernel
theorem dX7_letter_136 : decode cX7_letter 136 = .ok (.iconst 2, 1) := by decide +kernel
theorem dX7_letter_137 : decode cX7_letter 137 = .ok (.ireturn, 1) := by decide +kernel
theorem dX7_letter_138 : decode cX7_letter 138 = .ok (.aload_n 0, 1) := by decide +kernel
theorem dX7_letter_139 : decode cX7_letter 139 = .ok (.getfield 89, 3) := by decide +kernel
theorem dX7_letter_142 : decode cX7_letter 142 = .ok (.iload 5, 2) := by decide +kernel
theorem dX7_letter_144 : decode cX7_letter 144 = .ok (.iaload, 1) := by decide +kernel
theorem dX7_letter_145 : decode cX7_letter 145 = .ok (.ifCond .ne 13, 3) := by decide +kernel
theorem dX7_letter_148 : decode cX7_letter 148 = .ok (.aload_n 0, 1) := by decide +kernel
theorem dX7_letter_149 : decode cX7_letter 149 = .ok (.getfield 62, 3) := by decide +kernel
theorem dX7_letter_152 : decode cX7_letter 152 = .ok (.iload 6, 2) := by decide +kernel
theorem dX7_letter_154 : decode cX7_letter 154 = .ok (.iaload, 1) := by decide +kernel
theorem dX7_letter_155 : decode cX7_letter 155 = .ok (.goto 31, 3) := by decide +kernel
theorem dX7_letter_158 : decode cX7_letter 158 = .ok (.aload_n 0, 1) := by decide +kernel
theorem dX7_letter_159 : decode cX7_letter 159 = .ok (.getfield 89, 3) := by decide +kernel
theorem dX7_letter_162 : decode cX7_letter 162 = .ok (.iload 5, 2) := by decide +kernel
theorem dX7_letter_164 : decode cX7_letter 164 = .ok (.iaload, 1) := by decide +kernel
theorem dX7_letter_165 : decode cX7_letter 165 = .ok (.iconst 1, 1) := by decide +kernel
theorem dX7_letter_166 : decode cX7_letter 166 = .ok (.if_icmp .ne 13, 3) := by decide +kernel
theorem dX7_letter_169 : decode cX7_letter 169 = .ok (.aload_n 0, 1) := by decide +kernel
theorem dX7_letter_170 : decode cX7_letter 170 = .ok (.getfield 110, 3) := by decide +kernel
theorem dX7_letter_173 : decode cX7_letter 173 = .ok (.iload 5, 2) := by decide +kernel
theorem dX7_letter_175 : decode cX7_letter 175 = .ok (.iaload, 1) := by decide +kernel
theorem dX7_letter_176 : decode cX7_letter 176 = .ok (.goto 10, 3) := by decide +kernel
theorem dX7_letter_179 : decode cX7_letter 179 = .ok (.aload_n 0, 1) := by decide +kernel
theorem dX7_letter_180 : decode cX7_letter 180 = .ok (.getfield 107, 3) := by decide +kernel
theorem dX7_letter_183 : decode cX7_letter 183 = .ok (.iload 5, 2) := by decide +kernel
theorem dX7_letter_185 : decode cX7_letter 185 = .ok (.iaload, 1) := by decide +kernel
theorem dX7_letter_186 : decode cX7_letter 186 = .ok (.ireturn, 1) := by decide +kernel
theorem dX7_letter_187 : decode cX7_letter 187 = .ok (.aload_n 0, 1) := by decide +kernel
theorem dX7_letter_188 : decode cX7_letter 188 = .ok (.getfield 101, 3) := by decide +kernel
theorem dX7_letter_191 : decode cX7_letter 191 = .ok (.iload 5, 2) := by decide +kernel
theorem dX7_letter_193 : decode cX7_letter 193 = .ok (.iaload, 1) := by decide +kernel
theorem dX7_letter_194 : decode cX7_letter 194 = .ok (.ireturn, 1) := by decide +kernel
theorem dX7_letter_195 : decode cX7_letter 195 = .ok (.aload_n 0, 1) := by decide +kernel
theorem dX7_letter_196 : decode cX7_letter 196 = .ok (.getfield 104, 3) := by decide +kernel
theorem dX7_letter_199 : decode cX7_letter 199 = .ok (.iload 5, 2) := by decide +kernel
theorem dX7_letter_201 : decode cX7_letter 201 = .ok (.iaload, 1) := by decide +kernel
theorem dX7_letter_202 : decode cX7_letter 202 = .ok (.ireturn, 1) := by decide +kernel
theorem dX7_purses_0 : decode cX7_purses 0 = .ok (.lconst 0, 1) := by decide +kernel
theorem dX7_purses_1 : decode cX7_purses 1 = .ok (.lstore_n 1, 1) := by decide +kernel
theorem dX7_purses_2 : decode cX7_purses 2 = .ok (.iconst 0, 1) := by decide +kernel
theorem dX7_purses_3 : decode cX7_purses 3 = .ok (.istore_n 3, 1) := by decide +kernel
theorem dX7_purses_4 : decode cX7_purses 4 = .ok (.iload_n 3, 1) := by decide +kernel
theorem dX7_purses_5 : decode cX7_purses 5 = .ok (.aload_n 0, 1) := by decide +kernel
theorem dX7_purses_6 : decode cX7_purses 6 = .ok (.getfield 128, 3) := by decide +kernel
theorem dX7_purses_9 : decode cX7_purses 9 = .ok (.if_icmp .ge 33, 3) := by decide +kernel
theorem dX7_purses_12 : decode cX7_purses 12 = .ok (.lload_n 1, 1) := by decide +kernel
theorem dX7_purses_13 : decode cX7_purses 13 = .ok (.aload_n 0, 1) := by decide +kernel
theorem dX7_purses_14 : decode cX7_purses 14 = .ok (.getfield 13, 3) := by decide +kernel
theorem dX7_purses_17 : decode cX7_purses 17 = .ok (.iload_n 3, 1) := by decide +kernel
theorem dX7_purses_18 : decode cX7_purses 18 = .ok (.iaload, 1) := by decide +kernel
theorem dX7_purses_19 : decode cX7_purses 19 = .ok (.iconst 1, 1) := by decide +kernel
theorem dX7_purses_20 : decode cX7_purses 20 = .ok (.if_icmp .ne 13, 3) := by decide +kernel
theorem dX7_purses_23 : decode cX7_purses 23 = .ok (.aload_n 0, 1) := by decide +kernel
theorem dX7_purses_24 : decode cX7_purses 24 = .ok (.getfield 16, 3) := by decide +kernel
theorem dX7_purses_27 : decode cX7_purses 27 = .ok (.iload_n 3, 1) := by decide +kernel
theorem dX7_purses_28 : decode cX7_purses 28 = .ok (.iaload, 1) := by decide +kernel
theorem dX7_purses_29 : decode cX7_purses 29 = .ok (.i2l, 1) := by decide +kernel
theorem dX7_purses_30 : decode cX7_purses 30 = .ok (.goto 4, 3) := by decide +kernel
theorem dX7_purses_33 : decode cX7_purses 33 = .ok (.lconst 0, 1) := by decide +kernel
theorem dX7_purses_34 : decode cX7_purses 34 = .ok (.ladd, 1) := by decide +kernel
theorem dX7_purses_35 : decode cX7_purses 35 = .ok (.lstore_n 1, 1) := by decide +kernel
theorem dX7_purses_36 : decode cX7_purses 36 = .ok (.iinc 3 1, 3) := by decide +kernel
theorem dX7_purses_39 : decode cX7_purses 39 = .ok (.goto (-35), 3) := by decide +kernel
theorem dX7_purses_42 : decode cX7_purses 42 = .ok (.iconst 0, 1) := by decide +kernel
theorem dX7_purses_43 : decode cX7_purses 43 = .ok (.istore_n 3, 1) := by decide +kernel
theorem dX7_purses_44 : decode cX7_purses 44 = .ok (.iload_n 3, 1) := by decide +kernel
theorem dX7_purses_45 : decode cX7_purses 45 = .ok (.aload_n 0, 1) := by decide +kernel
theorem dX7_purses_46 : decode cX7_purses 46 = .ok (.getfield 147, 3) := by decide +kernel
theorem dX7_purses_49 : decode cX7_purses 49 = .ok (.if_icmp .ge 51, 3) := by decide +kernel
theorem dX7_purses_52 : decode cX7_purses 52 = .ok (.lload_n 1, 1) := by decide +kernel
theorem dX7_purses_53 : decode cX7_purses 53 = .ok (.aload_n 0, 1) := by decide +kernel
theorem dX7_purses_54 : decode cX7_purses 54 = .ok (.getfield 89, 3) := by decide +kernel
theorem dX7_purses_57 : decode cX7_purses 57 = .ok (.iload_n 3, 1) := by decide +kernel
theorem dX7_purses_58 : decode cX7_purses 58 = .ok (.iaload, 1) := by decide +kernel
theorem dX7_purses_59 : decode cX7_purses 59 = .ok (.ifCond .ne 32, 3) := by decide +kernel
theorem dX7_purses_62 : decode cX7_purses 62 = .ok (.aload_n 0, 1) := by decide +kernel
theorem dX7_purses_63 : decode cX7_purses 63 = .ok (.getfield 68, 3) := by decide +kernel
theorem dX7_purses_66 : decode cX7_purses 66 = .ok (.aload_n 0, 1) := by decide +kernel
theorem dX7_purses_67 : decode cX7_purses 67 = .ok (.getfield 98, 3) := by decide +kernel
theorem dX7_purses_70 : decode cX7_purses 70 = .ok (.iload_n 3, 1) := by decide +kernel
theorem dX7_purses_71 : decode cX7_purses 71 = .ok (.iaload, 1) := by decide +kernel
theorem dX7_purses_72 : decode cX7_purses 72 = .ok (.iaload, 1) := by decide +kernel
theorem dX7_purses_73 : decode cX7_purses 73 = .ok (.ifCond .lt 18, 3) := by decide +kernel
theorem dX7_purses_76 : decode cX7_purses 76 = .ok (.aload_n 0, 1) := by decide +kernel
theorem dX7_purses_77 : decode cX7_purses 77 = .ok (.getfield 62, 3) := by decide +kernel
theorem dX7_purses_80 : decode cX7_purses 80 = .ok (.aload_n 0, 1) := by decide +kernel
theorem dX7_purses_81 : decode cX7_purses 81 = .ok (.getfield 98, 3) := by decide +kernel
theorem dX7_purses_84 : decode cX7_purses 84 = .ok (.iload_n 3, 1) := by decide +kernel
theorem dX7_purses_85 : decode cX7_purses 85 = .ok (.iaload, 1) := by decide +kernel
theorem dX7_purses_86 : decode cX7_purses 86 = .ok (.iaload, 1) := by decide +kernel
theorem dX7_purses_87 : decode cX7_purses 87 = .ok (.i2l, 1) := by decide +kernel
theorem dX7_purses_88 : decode cX7_purses 88 = .ok (.goto 4, 3) := by decide +kernel
theorem dX7_purses_91 : decode cX7_purses 91 = .ok (.lconst 0, 1) := by decide +kernel
theorem dX7_purses_92 : decode cX7_purses 92 = .ok (.ladd, 1) := by decide +kernel
theorem dX7_purses_93 : decode cX7_purses 93 = .ok (.lstore_n 1, 1) := by decide +kernel
theorem dX7_purses_94 : decode cX7_purses 94 = .ok (.iinc 3 1, 3) := by decide +kernel
theorem dX7_purses_97 : decode cX7_purses 97 = .ok (.goto (-53), 3) := by decide +kernel
theorem dX7_purses_100 : decode cX7_purses 100 = .ok (.lload_n 1, 1) := by decide +kernel
theorem dX7_purses_101 : decode cX7_purses 101 = .ok (.lreturn, 1) := by decide +kernel
theorem dX7_countWhere_0 : decode cX7_countWhere 0 = .ok (.iconst 0, 1) := by decide +kernel
theorem dX7_countWhere_1 : decode cX7_countWhere 1 = .ok (.istore_n 2, 1) := by decide +kernel
theorem dX7_countWhere_2 : decode cX7_countWhere 2 = .ok (.iconst 0, 1) := by decide +kernel
theorem dX7_countWhere_3 : decode cX7_countWhere 3 = .ok (.istore_n 3, 1) := by decide +kernel
theorem dX7_countWhere_4 : decode cX7_countWhere 4 = .ok (.iload_n 3, 1) := by decide +kernel
theorem dX7_countWhere_5 : decode cX7_countWhere 5 = .ok (.aload_n 0, 1) := by decide +kernel
theorem dX7_countWhere_6 : decode cX7_countWhere 6 = .ok (.getfield 136, 3) := by decide +kernel
theorem dX7_countWhere_9 : decode cX7_countWhere 9 = .ok (.if_icmp .ge 27, 3) := by decide +kernel
theorem dX7_countWhere_12 : decode cX7_countWhere 12 = .ok (.iload_n 2, 1) := by decide +kernel
theorem dX7_countWhere_13 : decode cX7_countWhere 13 = .ok (.aload_n 0, 1) := by decide +kernel
theorem dX7_countWhere_14 : decode cX7_countWhere 14 = .ok (.getfield 56, 3) := by decide +kernel
theorem dX7_countWhere_17 : decode cX7_countWhere 17 = .ok (.iload_n 3, 1) := by decide +kernel
theorem dX7_countWhere_18 : decode cX7_countWhere 18 = .ok (.iaload, 1) := by decide +kernel
theorem dX7_countWhere_19 : decode cX7_countWhere 19 = .ok (.iload_n 1, 1) := by decide +kernel
theorem dX7_countWhere_20 : decode cX7_countWhere 20 = .ok (.if_icmp .ne 7, 3) := by decide +kernel
theorem dX7_countWhere_23 : decode cX7_countWhere 23 = .ok (.iconst 1, 1) := by decide +kernel
theorem dX7_countWhere_24 : decode cX7_countWhere 24 = .ok (.goto 4, 3) := by decide +kernel
theorem dX7_countWhere_27 : decode cX7_countWhere 27 = .ok (.iconst 0, 1) := by decide +kernel
theorem dX7_countWhere_28 : decode cX7_countWhere 28 = .ok (.iadd, 1) := by decide +kernel
theorem dX7_countWhere_29 : decode cX7_countWhere 29 = .ok (.istore_n 2, 1) := by decide +kernel
theorem dX7_countWhere_30 : decode cX7_countWhere 30 = .ok (.iinc 3 1, 3) := by decide +kernel
theorem dX7_countWhere_33 : decode cX7_countWhere 33 = .ok (.goto (-29), 3) := by decide +kernel
theorem dX7_countWhere_36 : decode cX7_countWhere 36 = .ok (.iload_n 2, 1) := by decide +kernel
theorem dX7_countWhere_37 : decode cX7_countWhere 37 = .ok (.ireturn, 1) := by decide +kernel
theorem dX7_count_0 : decode cX7_count 0 = .ok (.iconst 0, 1) := by decide +kernel
theorem dX7_count_1 : decode cX7_count 1 = .ok (.istore_n 2, 1) := by decide +kernel
theorem dX7_count_2 : decode cX7_count 2 = .ok (.iload_n 1, 1) := by decide +kernel
theorem dX7_count_3 : decode cX7_count 3 = .ok (.tableswitch 163 0 8 #[49, 54, 59, 94, 99, 104, 146, 152, 158], 49) := by decide +kernel
theorem dX7_count_52 : decode cX7_count 52 = .ok (.aload_n 0, 1) := by decide +kernel
theorem dX7_count_53 : decode cX7_count 53 = .ok (.getfield 128, 3) := by decide +kernel
theorem dX7_count_56 : decode cX7_count 56 = .ok (.ireturn, 1) := by decide +kernel
theorem dX7_count_57 : decode cX7_count 57 = .ok (.aload_n 0, 1) := by decide +kernel
theorem dX7_count_58 : decode cX7_count 58 = .ok (.getfield 136, 3) := by decide +kernel
theorem dX7_count_61 : decode cX7_count 61 = .ok (.ireturn, 1) := by decide +kernel
theorem dX7_count_62 : decode cX7_count 62 = .ok (.iconst 0, 1) := by decide +kernel
theorem dX7_count_63 : decode cX7_count 63 = .ok (.istore_n 3, 1) := by decide +kernel
theorem dX7_count_64 : decode cX7_count 64 = .ok (.iload_n 3, 1) := by decide +kernel
theorem dX7_count_65 : decode cX7_count 65 = .ok (.aload_n 0, 1) := by decide +kernel
theorem dX7_count_66 : decode cX7_count 66 = .ok (.getfield 136, 3) := by decide +kernel
theorem dX7_count_69 : decode cX7_count 69 = .ok (.if_icmp .ge 26, 3) := by decide +kernel
theorem dX7_count_72 : decode cX7_count 72 = .ok (.iload_n 2, 1) := by decide +kernel
theorem dX7_count_73 : decode cX7_count 73 = .ok (.aload_n 0, 1) := by decide +kernel
theorem dX7_count_74 : decode cX7_count 74 = .ok (.getfield 41, 3) := by decide +kernel
theorem dX7_count_77 : decode cX7_count 77 = .ok (.iload_n 3, 1) := by decide +kernel
theorem dX7_count_78 : decode cX7_count 78 = .ok (.iaload, 1) := by decide +kernel
theorem dX7_count_79 : decode cX7_count 79 = .ok (.ifCond .ne 7, 3) := by decide +kernel
theorem dX7_count_82 : decode cX7_count 82 = .ok (.iconst 1, 1) := by decide +kernel
theorem dX7_count_83 : decode cX7_count 83 = .ok (.goto 4, 3) := by decide +kernel
theorem dX7_count_86 : decode cX7_count 86 = .ok (.iconst 0, 1) := by decide +kernel
theorem dX7_count_87 : decode cX7_count 87 = .ok (.iadd, 1) := by decide +kernel
theorem dX7_count_88 : decode cX7_count 88 = .ok (.istore_n 2, 1) := by decide +kernel
theorem dX7_count_89 : decode cX7_count 89 = .ok (.iinc 3 1, 3) := by decide +kernel
theorem dX7_count_92 : decode cX7_count 92 = .ok (.goto (-28), 3) := by decide +kernel
theorem dX7_count_95 : decode cX7_count 95 = .ok (.iload_n 2, 1) := by decide +kernel
theorem dX7_count_96 : decode cX7_count 96 = .ok (.ireturn, 1) := by decide +kernel
theorem dX7_count_97 : decode cX7_count 97 = .ok (.aload_n 0, 1) := by decide +kernel
theorem dX7_count_98 : decode cX7_count 98 = .ok (.getfield 147, 3) := by decide +kernel
theorem dX7_count_101 : decode cX7_count 101 = .ok (.ireturn, 1) := by decide +kernel
theorem dX7_count_102 : decode cX7_count 102 = .ok (.aload_n 0, 1) := by decide +kernel
theorem dX7_count_103 : decode cX7_count 103 = .ok (.getfield 158, 3) := by decide +kernel
theorem dX7_count_106 : decode cX7_count 106 = .ok (.ireturn, 1) := by decide +kernel
theorem dX7_count_107 : decode cX7_count 107 = .ok (.iconst 0, 1) := by decide +kernel
theorem dX7_count_108 : decode cX7_count 108 = .ok (.istore_n 3, 1) := by decide +kernel
theorem dX7_count_109 : decode cX7_count 109 = .ok (.iload_n 3, 1) := by decide +kernel
theorem dX7_count_110 : decode cX7_count 110 = .ok (.bipush 16, 2) := by decide +kernel
theorem dX7_count_112 : decode cX7_count 112 = .ok (.if_icmp .ge 35, 3) := by decide +kernel
theorem dX7_count_115 : decode cX7_count 115 = .ok (.iload_n 2, 1) := by decide +kernel
theorem dX7_count_116 : decode cX7_count 116 = .ok (.aload_n 0, 1) := by decide +kernel
theorem dX7_count_117 : decode cX7_count 117 = .ok (.getfield 116, 3) := by decide +kernel
theorem dX7_count_120 : decode cX7_count 120 = .ok (.iload_n 3, 1) := by decide +kernel
theorem dX7_count_121 : decode cX7_count 121 = .ok (.baload, 1) := by decide +kernel
theorem dX7_count_122 : decode cX7_count 122 = .ok (.ifCond .eq 16, 3) := by decide +kernel
theorem dX7_count_125 : decode cX7_count 125 = .ok (.iload_n 3, 1) := by decide +kernel
theorem dX7_count_126 : decode cX7_count 126 = .ok (.iconst 4, 1) := by decide +kernel
theorem dX7_count_127 : decode cX7_count 127 = .ok (.idiv, 1) := by decide +kernel
theorem dX7_count_128 : decode cX7_count 128 = .ok (.iload_n 3, 1) := by decide +kernel
theorem dX7_count_129 : decode cX7_count 129 = .ok (.iconst 4, 1) := by decide +kernel
theorem dX7_count_130 : decode cX7_count 130 = .ok (.irem, 1) := by decide +kernel
theorem dX7_count_131 : decode cX7_count 131 = .ok (.if_icmp .ge 7, 3) := by decide +kernel
theorem dX7_count_134 : decode cX7_count 134 = .ok (.iconst 1, 1) := by decide +kernel
theorem dX7_count_135 : decode cX7_count 135 = .ok (.goto 4, 3) := by decide +kernel
theorem dX7_count_138 : decode cX7_count 138 = .ok (.iconst 0, 1) := by decide +kernel
theorem dX7_count_139 : decode cX7_count 139 = .ok (.iadd, 1) := by decide +kernel
theorem dX7_count_140 : decode cX7_count 140 = .ok (.istore_n 2, 1) := by decide +kernel
theorem dX7_count_141 : decode cX7_count 141 = .ok (.iinc 3 1, 3) := by decide +kernel
theorem dX7_count_144 : decode cX7_count 144 = .ok (.goto (-35), 3) := by decide +kernel
theorem dX7_count_147 : decode cX7_count 147 = .ok (.iload_n 2, 1) := by decide +kernel
theorem dX7_count_148 : decode cX7_count 148 = .ok (.ireturn, 1) := by decide +kernel
theorem dX7_count_149 : decode cX7_count 149 = .ok (.aload_n 0, 1) := by decide +kernel
theorem dX7_count_150 : decode cX7_count 150 = .ok (.iconst 1, 1) := by decide +kernel
theorem dX7_count_151 : decode cX7_count 151 = .ok (.invokevirtual 353, 3) := by decide +kernel
theorem dX7_count_154 : decode cX7_count 154 = .ok (.ireturn, 1) := by decide +kernel
theorem dX7_count_155 : decode cX7_count 155 = .ok (.aload_n 0, 1) := by decide +kernel
theorem dX7_count_156 : decode cX7_count 156 = .ok (.iconst 2, 1) := by decide +kernel
theorem dX7_count_157 : decode cX7_count 157 = .ok (.invokevirtual 353, 3) := by decide +kernel
theorem dX7_count_160 : decode cX7_count 160 = .ok (.ireturn, 1) := by decide +kernel
theorem dX7_count_161 : decode cX7_count 161 = .ok (.aload_n 0, 1) := by decide +kernel
theorem dX7_count_162 : decode cX7_count 162 = .ok (.getfield 262, 3) := by decide +kernel
theorem dX7_count_165 : decode cX7_count 165 = .ok (.ireturn, 1) := by decide +kernel
theorem dX7_count_166 : decode cX7_count 166 = .ok (.iconst (-1), 1) := by decide +kernel
theorem dX7_count_167 : decode cX7_count 167 = .ok (.ireturn, 1) := by decide +kernel
theorem dX7_trace_0 : decode cX7_trace 0 = .ok (.aload_n 0, 1) := by decide +kernel
theorem dX7_trace_1 : decode cX7_trace 1 = .ok (.getfield 215, 3) := by decide +kernel
theorem dX7_trace_4 : decode cX7_trace 4 = .ok (.lreturn, 1) := by decide +kernel
end
section
theorem dL_law_0 : decode cL_law 0 = .ok (.new 7, 3) := by decide +kernel
theorem dL_law_3 : decode cL_law 3 = .ok (.dup, 1) := by decide +kernel
theorem dL_law_4 : decode cL_law 4 = .ok (.invokespecial 9, 3) := by decide +kernel
theorem dL_law_7 : decode cL_law 7 = .ok (.astore_n 1, 1) := by decide +kernel
theorem dL_law_8 : decode cL_law 8 = .ok (.new 10, 3) := by decide +kernel
theorem dL_law_11 : decode cL_law 11 = .ok (.dup, 1) := by decide +kernel
theorem dL_law_12 : decode cL_law 12 = .ok (.invokespecial 12, 3) := by decide +kernel
theorem dL_law_15 : decode cL_law 15 = .ok (.astore_n 2, 1) := by decide +kernel
theorem dL_law_16 : decode cL_law 16 = .ok (.iconst 0, 1) := by decide +kernel
theorem dL_law_17 : decode cL_law 17 = .ok (.istore_n 3, 1) := by decide +kernel
theorem dL_law_18 : decode cL_law 18 = .ok (.iload_n 3, 1) := by decide +kernel
theorem dL_law_19 : decode cL_law 19 = .ok (.aload_n 0, 1) := by decide +kernel
theorem dL_law_20 : decode cL_law 20 = .ok (.arraylength, 1) := by decide +kernel
theorem dL_law_21 : decode cL_law 21 = .ok (.bipush 7, 2) := by decide +kernel
theorem dL_law_23 : decode cL_law 23 = .ok (.isub, 1) := by decide +kernel
theorem dL_law_24 : decode cL_law 24 = .ok (.if_icmp .gt 809, 3) := by decide +kernel
theorem dL_law_27 : decode cL_law 27 = .ok (.aload_n 0, 1) := by decide +kernel
theorem dL_law_28 : decode cL_law 28 = .ok (.iload_n 3, 1) := by decide +kernel
theorem dL_law_29 : decode cL_law 29 = .ok (.iaload, 1) := by decide +kernel
theorem dL_law_30 : decode cL_law 30 = .ok (.bipush 31, 2) := by decide +kernel
theorem dL_law_32 : decode cL_law 32 = .ok (.iand, 1) := by decide +kernel
theorem dL_law_33 : decode cL_law 33 = .ok (.tableswitch 794 0 18 #[91, 134, 203, 252, 275, 308, 341, 416, 459, 502, 535, 568, 591, 624, 657, 690, 743, 757, 780], 91) := by decide +kernel
theorem dL_law_124 : decode cL_law 124 = .ok (.aload_n 1, 1) := by decide +kernel
theorem dL_law_125 : decode cL_law 125 = .ok (.aload_n 0, 1) := by decide +kernel
theorem dL_law_126 : decode cL_law 126 = .ok (.iload_n 3, 1) := by decide +kernel
theorem dL_law_127 : decode cL_law 127 = .ok (.iconst 1, 1) := by decide +kernel
theorem dL_law_128 : decode cL_law 128 = .ok (.iadd, 1) := by decide +kernel
theorem dL_law_129 : decode cL_law 129 = .ok (.iaload, 1) := by decide +kernel
theorem dL_law_130 : decode cL_law 130 = .ok (.aload_n 0, 1) := by decide +kernel
theorem dL_law_131 : decode cL_law 131 = .ok (.iload_n 3, 1) := by decide +kernel
theorem dL_law_132 : decode cL_law 132 = .ok (.iconst 2, 1) := by decide +kernel
theorem dL_law_133 : decode cL_law 133 = .ok (.iadd, 1) := by decide +kernel
theorem dL_law_134 : decode cL_law 134 = .ok (.iaload, 1) := by decide +kernel
theorem dL_law_135 : decode cL_law 135 = .ok (.aload_n 0, 1) := by decide +kernel
theorem dL_law_136 : decode cL_law 136 = .ok (.iload_n 3, 1) := by decide +kernel
theorem dL_law_137 : decode cL_law 137 = .ok (.iconst 3, 1) := by decide +kernel
theorem dL_law_138 : decode cL_law 138 = .ok (.iadd, 1) := by decide +kernel
theorem dL_law_139 : decode cL_law 139 = .ok (.iaload, 1) := by decide +kernel
theorem dL_law_140 : decode cL_law 140 = .ok (.invokevirtual 13, 3) := by decide +kernel
theorem dL_law_143 : decode cL_law 143 = .ok (.aload_n 2, 1) := by decide +kernel
theorem dL_law_144 : decode cL_law 144 = .ok (.aload_n 0, 1) := by decide +kernel
theorem dL_law_145 : decode cL_law 145 = .ok (.iload_n 3, 1) := by decide +kernel
theorem dL_law_146 : decode cL_law 146 = .ok (.iconst 1, 1) := by decide +kernel
theorem dL_law_147 : decode cL_law 147 = .ok (.iadd, 1) := by decide +kernel
theorem dL_law_148 : decode cL_law 148 = .ok (.iaload, 1) := by decide +kernel
theorem dL_law_149 : decode cL_law 149 = .ok (.aload_n 0, 1) := by decide +kernel
theorem dL_law_150 : decode cL_law 150 = .ok (.iload_n 3, 1) := by decide +kernel
theorem dL_law_151 : decode cL_law 151 = .ok (.iconst 2, 1) := by decide +kernel
theorem dL_law_152 : decode cL_law 152 = .ok (.iadd, 1) := by decide +kernel
theorem dL_law_153 : decode cL_law 153 = .ok (.iaload, 1) := by decide +kernel
theorem dL_law_154 : decode cL_law 154 = .ok (.aload_n 0, 1) := by decide +kernel
theorem dL_law_155 : decode cL_law 155 = .ok (.iload_n 3, 1) := by decide +kernel
theorem dL_law_156 : decode cL_law 156 = .ok (.iconst 3, 1) := by decide +kernel
theorem dL_law_157 : decode cL_law 157 = .ok (.iadd, 1) := by decide +kernel
theorem dL_law_158 : decode cL_law 158 = .ok (.iaload, 1) := by decide +kernel
theorem dL_law_159 : decode cL_law 159 = .ok (.invokevirtual 17, 3) := by decide +kernel
theorem dL_law_162 : decode cL_law 162 = .ok (.if_icmp .eq 665, 3) := by decide +kernel
theorem dL_law_165 : decode cL_law 165 = .ok (.iconst 0, 1) := by decide +kernel
theorem dL_law_166 : decode cL_law 166 = .ok (.ireturn, 1) := by decide +kernel
theorem dL_law_167 : decode cL_law 167 = .ok (.aload_n 1, 1) := by decide +kernel
theorem dL_law_168 : decode cL_law 168 = .ok (.aload_n 0, 1) := by decide +kernel
theorem dL_law_169 : decode cL_law 169 = .ok (.iload_n 3, 1) := by decide +kernel
theorem dL_law_170 : decode cL_law 170 = .ok (.iconst 1, 1) := by decide +kernel
theorem dL_law_171 : decode cL_law 171 = .ok (.iadd, 1) := by decide +kernel
theorem dL_law_172 : decode cL_law 172 = .ok (.iaload, 1) := by decide +kernel
theorem dL_law_173 : decode cL_law 173 = .ok (.aload_n 0, 1) := by decide +kernel
theorem dL_law_174 : decode cL_law 174 = .ok (.iload_n 3, 1) := by decide +kernel
theorem dL_law_175 : decode cL_law 175 = .ok (.iconst 2, 1) := by decide +kernel
theorem dL_law_176 : decode cL_law 176 = .ok (.iadd, 1) := by decide +kernel
theorem dL_law_177 : decode cL_law 177 = .ok (.iaload, 1) := by decide +kernel
theorem dL_law_178 : decode cL_law 178 = .ok (.aload_n 0, 1) := by decide +kernel
theorem dL_law_179 : decode cL_law 179 = .ok (.iload_n 3, 1) := by decide +kernel
theorem dL_law_180 : decode cL_law 180 = .ok (.iconst 3, 1) := by decide +kernel
theorem dL_law_181 : decode cL_law 181 = .ok (.iadd, 1) := by decide +kernel
theorem dL_law_182 : decode cL_law 182 = .ok (.iaload, 1) := by decide +kernel
theorem dL_law_183 : decode cL_law 183 = .ok (.aload_n 0, 1) := by decide +kernel
theorem dL_law_184 : decode cL_law 184 = .ok (.iload_n 3, 1) := by decide +kernel
theorem dL_law_185 : decode cL_law 185 = .ok (.iconst 4, 1) := by decide +kernel
theorem dL_law_186 : decode cL_law 186 = .ok (.iadd, 1) := by decide +kernel
theorem dL_law_187 : decode cL_law 187 = .ok (.iaload, 1) := by decide +kernel
theorem dL_law_188 : decode cL_law 188 = .ok (.ifCond .eq 7, 3) := by decide +kernel
theorem dL_law_191 : decode cL_law 191 = .ok (.iconst 1, 1) := by decide +kernel
theorem dL_law_192 : decode cL_law 192 = .ok (.goto 4, 3) := by decide +kernel
theorem dL_law_195 : decode cL_law 195 = .ok (.iconst 0, 1) := by decide +kernel
theorem dL_law_196 : decode cL_law 196 = .ok (.invokevirtual 18, 3) := by decide +kernel
theorem dL_law_199 : decode cL_law 199 = .ok (.aload_n 2, 1) := by decide +kernel
theorem dL_law_200 : decode cL_law 200 = .ok (.aload_n 0, 1) := by decide +kernel
theorem dL_law_201 : decode cL_law 201 = .ok (.iload_n 3, 1) := by decide +kernel
theorem dL_law_202 : decode cL_law 202 = .ok (.iconst 1, 1) := by decide +kernel
theorem dL_law_203 : decode cL_law 203 = .ok (.iadd, 1) := by decide +kernel
theorem dL_law_204 : decode cL_law 204 = .ok (.iaload, 1) := by decide +kernel
theorem dL_law_205 : decode cL_law 205 = .ok (.aload_n 0, 1) := by decide +kernel
theorem dL_law_206 : decode cL_law 206 = .ok (.iload_n 3, 1) := by decide +kernel
theorem dL_law_207 : decode cL_law 207 = .ok (.iconst 2, 1) := by decide +kernel
theorem dL_law_208 : decode cL_law 208 = .ok (.iadd, 1) := by decide +kernel
theorem dL_law_209 : decode cL_law 209 = .ok (.iaload, 1) := by decide +kernel
theorem dL_law_210 : decode cL_law 210 = .ok (.aload_n 0, 1) := by decide +kernel
theorem dL_law_211 : decode cL_law 211 = .ok (.iload_n 3, 1) := by decide +kernel
theorem dL_law_212 : decode cL_law 212 = .ok (.iconst 3, 1) := by decide +kernel
theorem dL_law_213 : decode cL_law 213 = .ok (.iadd, 1) := by decide +kernel
theorem dL_law_214 : decode cL_law 214 = .ok (.iaload, 1) := by decide +kernel
theorem dL_law_215 : decode cL_law 215 = .ok (.aload_n 0, 1) := by decide +kernel
theorem dL_law_216 : decode cL_law 216 = .ok (.iload_n 3, 1) := by decide +kernel
theorem dL_law_217 : decode cL_law 217 = .ok (.iconst 4, 1) := by decide +kernel
theorem dL_law_218 : decode cL_law 218 = .ok (.iadd, 1) := by decide +kernel
theorem dL_law_219 : decode cL_law 219 = .ok (.iaload, 1) := by decide +kernel
theorem dL_law_220 : decode cL_law 220 = .ok (.ifCond .eq 7, 3) := by decide +kernel
theorem dL_law_223 : decode cL_law 223 = .ok (.iconst 1, 1) := by decide +kernel
theorem dL_law_224 : decode cL_law 224 = .ok (.goto 4, 3) := by decide +kernel
theorem dL_law_227 : decode cL_law 227 = .ok (.iconst 0, 1) := by decide +kernel
theorem dL_law_228 : decode cL_law 228 = .ok (.invokevirtual 22, 3) := by decide +kernel
theorem dL_law_231 : decode cL_law 231 = .ok (.if_icmp .eq 596, 3) := by decide +kernel
theorem dL_law_234 : decode cL_law 234 = .ok (.iconst 0, 1) := by decide +kernel
theorem dL_law_235 : decode cL_law 235 = .ok (.ireturn, 1) := by decide +kernel
theorem dL_law_236 : decode cL_law 236 = .ok (.aload_n 1, 1) := by decide +kernel
theorem dL_law_237 : decode cL_law 237 = .ok (.aload_n 0, 1) := by decide +kernel
theorem dL_law_238 : decode cL_law 238 = .ok (.iload_n 3, 1) := by decide +kernel
theorem dL_law_239 : decode cL_law 239 = .ok (.iconst 1, 1) := by decide +kernel
theorem dL_law_240 : decode cL_law 240 = .ok (.iadd, 1) := by decide +kernel
theorem dL_law_241 : decode cL_law 241 = .ok (.iaload, 1) := by decide +kernel
theorem dL_law_242 : decode cL_law 242 = .ok (.aload_n 0, 1) := by decide +kernel
theorem dL_law_243 : decode cL_law 243 = .ok (.iload_n 3, 1) := by decide +kernel
theorem dL_law_244 : decode cL_law 244 = .ok (.iconst 2, 1) := by decide +kernel
theorem dL_law_245 : decode cL_law 245 = .ok (.iadd, 1) := by decide +kernel
theorem dL_law_246 : decode cL_law 246 = .ok (.iaload, 1) := by decide +kernel
theorem dL_law_247 : decode cL_law 247 = .ok (.ifCond .eq 7, 3) := by decide +kernel
theorem dL_law_250 : decode cL_law 250 = .ok (.iconst 1, 1) := by decide +kernel
theorem dL_law_251 : decode cL_law 251 = .ok (.goto 4, 3) := by decide +kernel
theorem dL_law_254 : decode cL_law 254 = .ok (.iconst 0, 1) := by decide +kernel
theorem dL_law_255 : decode cL_law 255 = .ok (.invokevirtual 23, 3) := by decide +kernel
theorem dL_law_258 : decode cL_law 258 = .ok (.aload_n 2, 1) := by decide +kernel
theorem dL_law_259 : decode cL_law 259 = .ok (.aload_n 0, 1) := by decide +kernel
theorem dL_law_260 : decode cL_law 260 = .ok (.iload_n 3, 1) := by decide +kernel
theorem dL_law_261 : decode cL_law 261 = .ok (.iconst 1, 1) := by decide +kernel
theorem dL_law_262 : decode cL_law 262 = .ok (.iadd, 1) := by decide +kernel
theorem dL_law_263 : decode cL_law 263 = .ok (.iaload, 1) := by decide +kernel
theorem dL_law_264 : decode cL_law 264 = .ok (.aload_n 0, 1) := by decide +kernel
theorem dL_law_265 : decode cL_law 265 = .ok (.iload_n 3, 1) := by decide +kernel
theorem dL_law_266 : decode cL_law 266 = .ok (.iconst 2, 1) := by decide +kernel
theorem dL_law_267 : decode cL_law 267 = .ok (.iadd, 1) := by decide +kernel
theorem dL_law_268 : decode cL_law 268 = .ok (.iaload, 1) := by decide +kernel
theorem dL_law_269 : decode cL_law 269 = .ok (.ifCond .eq 7, 3) := by decide +kernel
theorem dL_law_272 : decode cL_law 272 = .ok (.iconst 1, 1) := by decide +kernel
theorem dL_law_273 : decode cL_law 273 = .ok (.goto 4, 3) := by decide +kernel
theorem dL_law_276 : decode cL_law 276 = .ok (.iconst 0, 1) := by decide +kernel
theorem dL_law_277 : decode cL_law 277 = .ok (.invokevirtual 27, 3) := by decide +kernel
theorem dL_law_280 : decode cL_law 280 = .ok (.if_icmp .eq 547, 3) := by decide +kernel
theorem dL_law_283 : decode cL_law 283 = .ok (.iconst 0, 1) := by decide +kernel
theorem dL_law_284 : decode cL_law 284 = .ok (.ireturn, 1) := by decide +kernel
theorem dL_law_285 : decode cL_law 285 = .ok (.aload_n 1, 1) := by decide +kernel
theorem dL_law_286 : decode cL_law 286 = .ok (.aload_n 0, 1) := by decide +kernel
theorem dL_law_287 : decode cL_law 287 = .ok (.iload_n 3, 1) := by decide +kernel
theorem dL_law_288 : decode cL_law 288 = .ok (.iconst 1, 1) := by decide +kernel
theorem dL_law_289 : decode cL_law 289 = .ok (.iadd, 1) := by decide +kernel
theorem dL_law_290 : decode cL_law 290 = .ok (.iaload, 1) := by decide +kernel
theorem dL_law_291 : decode cL_law 291 = .ok (.invokevirtual 28, 3) := by decide +kernel
theorem dL_law_294 : decode cL_law 294 = .ok (.aload_n 2, 1) := by decide +kernel
theorem dL_law_295 : decode cL_law 295 = .ok (.aload_n 0, 1) := by decide +kernel
theorem dL_law_296 : decode cL_law 296 = .ok (.iload_n 3, 1) := by decide +kernel
theorem dL_law_297 : decode cL_law 297 = .ok (.iconst 1, 1) := by decide +kernel
theorem dL_law_298 : decode cL_law 298 = .ok (.iadd, 1) := by decide +kernel
theorem dL_law_299 : decode cL_law 299 = .ok (.iaload, 1) := by decide +kernel
theorem dL_law_300 : decode cL_law 300 = .ok (.invokevirtual 32, 3) := by decide +kernel
theorem dL_law_303 : decode cL_law 303 = .ok (.if_icmp .eq 524, 3) := by decide +kernel
theorem dL_law_306 : decode cL_law 306 = .ok (.iconst 0, 1) := by decide +kernel
theorem dL_law_307 : decode cL_law 307 = .ok (.ireturn, 1) := by decide +kernel
theorem dL_law_308 : decode cL_law 308 = .ok (.aload_n 1, 1) := by decide +kernel
theorem dL_law_309 : decode cL_law 309 = .ok (.aload_n 0, 1) := by decide +kernel
theorem dL_law_310 : decode cL_law 310 = .ok (.iload_n 3, 1) := by decide +kernel
theorem dL_law_311 : decode cL_law 311 = .ok (.iconst 1, 1) := by decide +kernel
theorem dL_law_312 : decode cL_law 312 = .ok (.iadd, 1) := by decide +kernel
theorem dL_law_313 : decode cL_law 313 = .ok (.iaload, 1) := by decide +kernel
theorem dL_law_314 : decode cL_law 314 = .ok (.aload_n 0, 1) := by decide +kernel
theorem dL_law_315 : decode cL_law 315 = .ok (.iload_n 3, 1) := by decide +kernel
theorem dL_law_316 : decode cL_law 316 = .ok (.iconst 2, 1) := by decide +kernel
theorem dL_law_317 : decode cL_law 317 = .ok (.iadd, 1) := by decide +kernel
theorem dL_law_318 : decode cL_law 318 = .ok (.iaload, 1) := by decide +kernel
theorem dL_law_319 : decode cL_law 319 = .ok (.invokevirtual 33, 3) := by decide +kernel
theorem dL_law_322 : decode cL_law 322 = .ok (.aload_n 2, 1) := by decide +kernel
theorem dL_law_323 : decode cL_law 323 = .ok (.aload_n 0, 1) := by decide +kernel
theorem dL_law_324 : decode cL_law 324 = .ok (.iload_n 3, 1) := by decide +kernel
theorem dL_law_325 : decode cL_law 325 = .ok (.iconst 1, 1) := by decide +kernel
theorem dL_law_326 : decode cL_law 326 = .ok (.iadd, 1) := by decide +kernel
theorem dL_law_327 : decode cL_law 327 = .ok (.iaload, 1) := by decide +kernel
theorem dL_law_328 : decode cL_law 328 = .ok (.aload_n 0, 1) := by decide +kernel
theorem dL_law_329 : decode cL_law 329 = .ok (.iload_n 3, 1) := by decide +kernel
theorem dL_law_330 : decode cL_law 330 = .ok (.iconst 2, 1) := by decide +kernel
theorem dL_law_331 : decode cL_law 331 = .ok (.iadd, 1) := by decide +kernel
theorem dL_law_332 : decode cL_law 332 = .ok (.iaload, 1) := by decide +kernel
theorem dL_law_333 : decode cL_law 333 = .ok (.invokevirtual 37, 3) := by decide +kernel
theorem dL_law_336 : decode cL_law 336 = .ok (.if_icmp .eq 491, 3) := by decide +kernel
theorem dL_law_339 : decode cL_law 339 = .ok (.iconst 0, 1) := by decide +kernel
theorem dL_law_340 : decode cL_law 340 = .ok (.ireturn, 1) := by decide +kernel
theorem dL_law_341 : decode cL_law 341 = .ok (.aload_n 1, 1) := by decide +kernel
theorem dL_law_342 : decode cL_law 342 = .ok (.aload_n 0, 1) := by decide +kernel
theorem dL_law_343 : decode cL_law 343 = .ok (.iload_n 3, 1) := by decide +kernel
theorem dL_law_344 : decode cL_law 344 = .ok (.iconst 1, 1) := by decide +kernel
theorem dL_law_345 : decode cL_law 345 = .ok (.iadd, 1) := by decide +kernel
theorem dL_law_346 : decode cL_law 346 = .ok (.iaload, 1) := by decide +kernel
theorem dL_law_347 : decode cL_law 347 = .ok (.aload_n 0, 1) := by decide +kernel
theorem dL_law_348 : decode cL_law 348 = .ok (.iload_n 3, 1) := by decide +kernel
theorem dL_law_349 : decode cL_law 349 = .ok (.iconst 2, 1) := by decide +kernel
theorem dL_law_350 : decode cL_law 350 = .ok (.iadd, 1) := by decide +kernel
theorem dL_law_351 : decode cL_law 351 = .ok (.iaload, 1) := by decide +kernel
theorem dL_law_352 : decode cL_law 352 = .ok (.invokevirtual 38, 3) := by decide +kernel
theorem dL_law_355 : decode cL_law 355 = .ok (.aload_n 2, 1) := by decide +kernel
theorem dL_law_356 : decode cL_law 356 = .ok (.aload_n 0, 1) := by decide +kernel
theorem dL_law_357 : decode cL_law 357 = .ok (.iload_n 3, 1) := by decide +kernel
theorem dL_law_358 : decode cL_law 358 = .ok (.iconst 1, 1) := by decide +kernel
theorem dL_law_359 : decode cL_law 359 = .ok (.iadd, 1) := by decide +kernel
theorem dL_law_360 : decode cL_law 360 = .ok (.iaload, 1) := by decide +kernel
theorem dL_law_361 : decode cL_law 361 = .ok (.aload_n 0, 1) := by decide +kernel
theorem dL_law_362 : decode cL_law 362 = .ok (.iload_n 3, 1) := by decide +kernel
theorem dL_law_363 : decode cL_law 363 = .ok (.iconst 2, 1) := by decide +kernel
theorem dL_law_364 : decode cL_law 364 = .ok (.iadd, 1) := by decide +kernel
theorem dL_law_365 : decode cL_law 365 = .ok (.iaload, 1) := by decide +kernel
theorem dL_law_366 : decode cL_law 366 = .ok (.invokevirtual 41, 3) := by decide +kernel
theorem dL_law_369 : decode cL_law 369 = .ok (.if_icmp .eq 458, 3) := by decide +kernel
theorem dL_law_372 : decode cL_law 372 = .ok (.iconst 0, 1) := by decide +kernel
theorem dL_law_373 : decode cL_law 373 = .ok (.ireturn, 1) := by decide +kernel
theorem dL_law_374 : decode cL_law 374 = .ok (.aload_n 1, 1) := by decide +kernel
theorem dL_law_375 : decode cL_law 375 = .ok (.aload_n 0, 1) := by decide +kernel
theorem dL_law_376 : decode cL_law 376 = .ok (.iload_n 3, 1) := by decide +kernel
theorem dL_law_377 : decode cL_law 377 = .ok (.iconst 1, 1) := by decide +kernel
theorem dL_law_378 : decode cL_law 378 = .ok (.iadd, 1) := by decide +kernel
theorem dL_law_379 : decode cL_law 379 = .ok (.iaload, 1) := by decide +kernel
theorem dL_law_380 : decode cL_law 380 = .ok (.aload_n 0, 1) := by decide +kernel
theorem dL_law_381 : decode cL_law 381 = .ok (.iload_n 3, 1) := by decide +kernel
theorem dL_law_382 : decode cL_law 382 = .ok (.iconst 2, 1) := by decide +kernel
theorem dL_law_383 : decode cL_law 383 = .ok (.iadd, 1) := by decide +kernel
theorem dL_law_384 : decode cL_law 384 = .ok (.iaload, 1) := by decide +kernel
theorem dL_law_385 : decode cL_law 385 = .ok (.aload_n 0, 1) := by decide +kernel
theorem dL_law_386 : decode cL_law 386 = .ok (.iload_n 3, 1) := by decide +kernel
theorem dL_law_387 : decode cL_law 387 = .ok (.iconst 3, 1) := by decide +kernel
theorem dL_law_388 : decode cL_law 388 = .ok (.iadd, 1) := by decide +kernel
theorem dL_law_389 : decode cL_law 389 = .ok (.iaload, 1) := by decide +kernel
theorem dL_law_390 : decode cL_law 390 = .ok (.aload_n 0, 1) := by decide +kernel
theorem dL_law_391 : decode cL_law 391 = .ok (.iload_n 3, 1) := by decide +kernel
theorem dL_law_392 : decode cL_law 392 = .ok (.iconst 4, 1) := by decide +kernel
theorem dL_law_393 : decode cL_law 393 = .ok (.iadd, 1) := by decide +kernel
theorem dL_law_394 : decode cL_law 394 = .ok (.iaload, 1) := by decide +kernel
theorem dL_law_395 : decode cL_law 395 = .ok (.aload_n 0, 1) := by decide +kernel
theorem dL_law_396 : decode cL_law 396 = .ok (.iload_n 3, 1) := by decide +kernel
theorem dL_law_397 : decode cL_law 397 = .ok (.iconst 5, 1) := by decide +kernel
theorem dL_law_398 : decode cL_law 398 = .ok (.iadd, 1) := by decide +kernel
theorem dL_law_399 : decode cL_law 399 = .ok (.iaload, 1) := by decide +kernel
theorem dL_law_400 : decode cL_law 400 = .ok (.aload_n 0, 1) := by decide +kernel
theorem dL_law_401 : decode cL_law 401 = .ok (.iload_n 3, 1) := by decide +kernel
theorem dL_law_402 : decode cL_law 402 = .ok (.bipush 6, 2) := by decide +kernel
theorem dL_law_404 : decode cL_law 404 = .ok (.iadd, 1) := by decide +kernel
theorem dL_law_405 : decode cL_law 405 = .ok (.iaload, 1) := by decide +kernel
theorem dL_law_406 : decode cL_law 406 = .ok (.invokevirtual 42, 3) := by decide +kernel
theorem dL_law_409 : decode cL_law 409 = .ok (.aload_n 2, 1) := by decide +kernel
theorem dL_law_410 : decode cL_law 410 = .ok (.aload_n 0, 1) := by decide +kernel
theorem dL_law_411 : decode cL_law 411 = .ok (.iload_n 3, 1) := by decide +kernel
theorem dL_law_412 : decode cL_law 412 = .ok (.iconst 1, 1) := by decide +kernel
theorem dL_law_413 : decode cL_law 413 = .ok (.iadd, 1) := by decide +kernel
theorem dL_law_414 : decode cL_law 414 = .ok (.iaload, 1) := by decide +kernel
theorem dL_law_415 : decode cL_law 415 = .ok (.aload_n 0, 1) := by decide +kernel
theorem dL_law_416 : decode cL_law 416 = .ok (.iload_n 3, 1) := by decide +kernel
theorem dL_law_417 : decode cL_law 417 = .ok (.iconst 2, 1) := by decide +kernel
theorem dL_law_418 : decode cL_law 418 = .ok (.iadd, 1) := by decide +kernel
theorem dL_law_419 : decode cL_law 419 = .ok (.iaload, 1) := by decide +kernel
theorem dL_law_420 : decode cL_law 420 = .ok (.aload_n 0, 1) := by decide +kernel
theorem dL_law_421 : decode cL_law 421 = .ok (.iload_n 3, 1) := by decide +kernel
theorem dL_law_422 : decode cL_law 422 = .ok (.iconst 3, 1) := by decide +kernel
theorem dL_law_423 : decode cL_law 423 = .ok (.iadd, 1) := by decide +kernel
theorem dL_law_424 : decode cL_law 424 = .ok (.iaload, 1) := by decide +kernel
theorem dL_law_425 : decode cL_law 425 = .ok (.aload_n 0, 1) := by decide +kernel
theorem dL_law_426 : decode cL_law 426 = .ok (.iload_n 3, 1) := by decide +kernel
theorem dL_law_427 : decode cL_law 427 = .ok (.iconst 4, 1) := by decide +kernel
theorem dL_law_428 : decode cL_law 428 = .ok (.iadd, 1) := by decide +kernel
theorem dL_law_429 : decode cL_law 429 = .ok (.iaload, 1) := by decide +kernel
theorem dL_law_430 : decode cL_law 430 = .ok (.aload_n 0, 1) := by decide +kernel
theorem dL_law_431 : decode cL_law 431 = .ok (.iload_n 3, 1) := by decide +kernel
theorem dL_law_432 : decode cL_law 432 = .ok (.iconst 5, 1) := by decide +kernel
theorem dL_law_433 : decode cL_law 433 = .ok (.iadd, 1) := by decide +kernel
theorem dL_law_434 : decode cL_law 434 = .ok (.iaload, 1) := by decide +kernel
theorem dL_law_435 : decode cL_law 435 = .ok (.aload_n 0, 1) := by decide +kernel
theorem dL_law_436 : decode cL_law 436 = .ok (.iload_n 3, 1) := by decide +kernel
theorem dL_law_437 : decode cL_law 437 = .ok (.bipush 6, 2) := by decide +kernel
theorem dL_law_439 : decode cL_law 439 = .ok (.iadd, 1) := by decide +kernel
theorem dL_law_440 : decode cL_law 440 = .ok (.iaload, 1) := by decide +kernel
theorem dL_law_441 : decode cL_law 441 = .ok (.invokevirtual 46, 3) := by decide +kernel
theorem dL_law_444 : decode cL_law 444 = .ok (.if_icmp .eq 383, 3) := by decide +kernel
theorem dL_law_447 : decode cL_law 447 = .ok (.iconst 0, 1) := by decide +kernel
theorem dL_law_448 : decode cL_law 448 = .ok (.ireturn, 1) := by decide +kernel
theorem dL_law_449 : decode cL_law 449 = .ok (.aload_n 1, 1) := by decide +kernel
theorem dL_law_450 : decode cL_law 450 = .ok (.aload_n 0, 1) := by decide +kernel
theorem dL_law_451 : decode cL_law 451 = .ok (.iload_n 3, 1) := by decide +kernel
theorem dL_law_452 : decode cL_law 452 = .ok (.iconst 1, 1) := by decide +kernel
theorem dL_law_453 : decode cL_law 453 = .ok (.iadd, 1) := by decide +kernel
theorem dL_law_454 : decode cL_law 454 = .ok (.iaload, 1) := by decide +kernel
theorem dL_law_455 : decode cL_law 455 = .ok (.aload_n 0, 1) := by decide +kernel
theorem dL_law_456 : decode cL_law 456 = .ok (.iload_n 3, 1) := by decide +kernel
theorem dL_law_457 : decode cL_law 457 = .ok (.iconst 2, 1) := by decide +kernel
theorem dL_law_458 : decode cL_law 458 = .ok (.iadd, 1) := by decide +kernel
theorem dL_law_459 : decode cL_law 459 = .ok (.iaload, 1) := by decide +kernel
theorem dL_law_460 : decode cL_law 460 = .ok (.aload_n 0, 1) := by decide +kernel
theorem dL_law_461 : decode cL_law 461 = .ok (.iload_n 3, 1) := by decide +kernel
theorem dL_law_462 : decode cL_law 462 = .ok (.iconst 3, 1) := by decide +kernel
theorem dL_law_463 : decode cL_law 463 = .ok (.iadd, 1) := by decide +kernel
theorem dL_law_464 : decode cL_law 464 = .ok (.iaload, 1) := by decide +kernel
theorem dL_law_465 : decode cL_law 465 = .ok (.invokevirtual 47, 3) := by decide +kernel
theorem dL_law_468 : decode cL_law 468 = .ok (.aload_n 2, 1) := by decide +kernel
theorem dL_law_469 : decode cL_law 469 = .ok (.aload_n 0, 1) := by decide +kernel
theorem dL_law_470 : decode cL_law 470 = .ok (.iload_n 3, 1) := by decide +kernel
theorem dL_law_471 : decode cL_law 471 = .ok (.iconst 1, 1) := by decide +kernel
theorem dL_law_472 : decode cL_law 472 = .ok (.iadd, 1) := by decide +kernel
theorem dL_law_473 : decode cL_law 473 = .ok (.iaload, 1) := by decide +kernel
theorem dL_law_474 : decode cL_law 474 = .ok (.aload_n 0, 1) := by decide +kernel
theorem dL_law_475 : decode cL_law 475 = .ok (.iload_n 3, 1) := by decide +kernel
theorem dL_law_476 : decode cL_law 476 = .ok (.iconst 2, 1) := by decide +kernel
theorem dL_law_477 : decode cL_law 477 = .ok (.iadd, 1) := by decide +kernel
theorem dL_law_478 : decode cL_law 478 = .ok (.iaload, 1) := by decide +kernel
theorem dL_law_479 : decode cL_law 479 = .ok (.aload_n 0, 1) := by decide +kernel
theorem dL_law_480 : decode cL_law 480 = .ok (.iload_n 3, 1) := by decide +kernel
theorem dL_law_481 : decode cL_law 481 = .ok (.iconst 3, 1) := by decide +kernel
theorem dL_law_482 : decode cL_law 482 = .ok (.iadd, 1) := by decide +kernel
theorem dL_law_483 : decode cL_law 483 = .ok (.iaload, 1) := by decide +kernel
theorem dL_law_484 : decode cL_law 484 = .ok (.invokevirtual 50, 3) := by decide +kernel
theorem dL_law_487 : decode cL_law 487 = .ok (.if_icmp .eq 340, 3) := by decide +kernel
theorem dL_law_490 : decode cL_law 490 = .ok (.iconst 0, 1) := by decide +kernel
theorem dL_law_491 : decode cL_law 491 = .ok (.ireturn, 1) := by decide +kernel
theorem dL_law_492 : decode cL_law 492 = .ok (.aload_n 1, 1) := by decide +kernel
theorem dL_law_493 : decode cL_law 493 = .ok (.aload_n 0, 1) := by decide +kernel
theorem dL_law_494 : decode cL_law 494 = .ok (.iload_n 3, 1) := by decide +kernel
theorem dL_law_495 : decode cL_law 495 = .ok (.iconst 1, 1) := by decide +kernel
theorem dL_law_496 : decode cL_law 496 = .ok (.iadd, 1) := by decide +kernel
theorem dL_law_497 : decode cL_law 497 = .ok (.iaload, 1) := by decide +kernel
theorem dL_law_498 : decode cL_law 498 = .ok (.aload_n 0, 1) := by decide +kernel
theorem dL_law_499 : decode cL_law 499 = .ok (.iload_n 3, 1) := by decide +kernel
theorem dL_law_500 : decode cL_law 500 = .ok (.iconst 2, 1) := by decide +kernel
theorem dL_law_501 : decode cL_law 501 = .ok (.iadd, 1) := by decide +kernel
theorem dL_law_502 : decode cL_law 502 = .ok (.iaload, 1) := by decide +kernel
theorem dL_law_503 : decode cL_law 503 = .ok (.aload_n 0, 1) := by decide +kernel
theorem dL_law_504 : decode cL_law 504 = .ok (.iload_n 3, 1) := by decide +kernel
theorem dL_law_505 : decode cL_law 505 = .ok (.iconst 3, 1) := by decide +kernel
theorem dL_law_506 : decode cL_law 506 = .ok (.iadd, 1) := by decide +kernel
theorem dL_law_507 : decode cL_law 507 = .ok (.iaload, 1) := by decide +kernel
theorem dL_law_508 : decode cL_law 508 = .ok (.invokevirtual 51, 3) := by decide +kernel
theorem dL_law_511 : decode cL_law 511 = .ok (.aload_n 2, 1) := by decide +kernel
theorem dL_law_512 : decode cL_law 512 = .ok (.aload_n 0, 1) := by decide +kernel
theorem dL_law_513 : decode cL_law 513 = .ok (.iload_n 3, 1) := by decide +kernel
theorem dL_law_514 : decode cL_law 514 = .ok (.iconst 1, 1) := by decide +kernel
theorem dL_law_515 : decode cL_law 515 = .ok (.iadd, 1) := by decide +kernel
theorem dL_law_516 : decode cL_law 516 = .ok (.iaload, 1) := by decide +kernel
theorem dL_law_517 : decode cL_law 517 = .ok (.aload_n 0, 1) := by decide +kernel
theorem dL_law_518 : decode cL_law 518 = .ok (.iload_n 3, 1) := by decide +kernel
theorem dL_law_519 : decode cL_law 519 = .ok (.iconst 2, 1) := by decide +kernel
theorem dL_law_520 : decode cL_law 520 = .ok (.iadd, 1) := by decide +kernel
theorem dL_law_521 : decode cL_law 521 = .ok (.iaload, 1) := by decide +kernel
theorem dL_law_522 : decode cL_law 522 = .ok (.aload_n 0, 1) := by decide +kernel
theorem dL_law_523 : decode cL_law 523 = .ok (.iload_n 3, 1) := by decide +kernel
theorem dL_law_524 : decode cL_law 524 = .ok (.iconst 3, 1) := by decide +kernel
theorem dL_law_525 : decode cL_law 525 = .ok (.iadd, 1) := by decide +kernel
theorem dL_law_526 : decode cL_law 526 = .ok (.iaload, 1) := by decide +kernel
theorem dL_law_527 : decode cL_law 527 = .ok (.invokevirtual 54, 3) := by decide +kernel
theorem dL_law_530 : decode cL_law 530 = .ok (.if_icmp .eq 297, 3) := by decide +kernel
theorem dL_law_533 : decode cL_law 533 = .ok (.iconst 0, 1) := by decide +kernel
theorem dL_law_534 : decode cL_law 534 = .ok (.ireturn, 1) := by decide +kernel
theorem dL_law_535 : decode cL_law 535 = .ok (.aload_n 1, 1) := by decide +kernel
theorem dL_law_536 : decode cL_law 536 = .ok (.aload_n 0, 1) := by decide +kernel
theorem dL_law_537 : decode cL_law 537 = .ok (.iload_n 3, 1) := by decide +kernel
theorem dL_law_538 : decode cL_law 538 = .ok (.iconst 1, 1) := by decide +kernel
theorem dL_law_539 : decode cL_law 539 = .ok (.iadd, 1) := by decide +kernel
theorem dL_law_540 : decode cL_law 540 = .ok (.iaload, 1) := by decide +kernel
theorem dL_law_541 : decode cL_law 541 = .ok (.aload_n 0, 1) := by decide +kernel
theorem dL_law_542 : decode cL_law 542 = .ok (.iload_n 3, 1) := by decide +kernel
theorem dL_law_543 : decode cL_law 543 = .ok (.iconst 2, 1) := by decide +kernel
theorem dL_law_544 : decode cL_law 544 = .ok (.iadd, 1) := by decide +kernel
theorem dL_law_545 : decode cL_law 545 = .ok (.iaload, 1) := by decide +kernel
theorem dL_law_546 : decode cL_law 546 = .ok (.invokevirtual 55, 3) := by decide +kernel
theorem dL_law_549 : decode cL_law 549 = .ok (.aload_n 2, 1) := by decide +kernel
theorem dL_law_550 : decode cL_law 550 = .ok (.aload_n 0, 1) := by decide +kernel
theorem dL_law_551 : decode cL_law 551 = .ok (.iload_n 3, 1) := by decide +kernel
theorem dL_law_552 : decode cL_law 552 = .ok (.iconst 1, 1) := by decide +kernel
theorem dL_law_553 : decode cL_law 553 = .ok (.iadd, 1) := by decide +kernel
theorem dL_law_554 : decode cL_law 554 = .ok (.iaload, 1) := by decide +kernel
theorem dL_law_555 : decode cL_law 555 = .ok (.aload_n 0, 1) := by decide +kernel
theorem dL_law_556 : decode cL_law 556 = .ok (.iload_n 3, 1) := by decide +kernel
theorem dL_law_557 : decode cL_law 557 = .ok (.iconst 2, 1) := by decide +kernel
theorem dL_law_558 : decode cL_law 558 = .ok (.iadd, 1) := by decide +kernel
theorem dL_law_559 : decode cL_law 559 = .ok (.iaload, 1) := by decide +kernel
theorem dL_law_560 : decode cL_law 560 = .ok (.invokevirtual 58, 3) := by decide +kernel
theorem dL_law_563 : decode cL_law 563 = .ok (.if_icmp .eq 264, 3) := by decide +kernel
theorem dL_law_566 : decode cL_law 566 = .ok (.iconst 0, 1) := by decide +kernel
theorem dL_law_567 : decode cL_law 567 = .ok (.ireturn, 1) := by decide +kernel
theorem dL_law_568 : decode cL_law 568 = .ok (.aload_n 1, 1) := by decide +kernel
theorem dL_law_569 : decode cL_law 569 = .ok (.aload_n 0, 1) := by decide +kernel
theorem dL_law_570 : decode cL_law 570 = .ok (.iload_n 3, 1) := by decide +kernel
theorem dL_law_571 : decode cL_law 571 = .ok (.iconst 1, 1) := by decide +kernel
theorem dL_law_572 : decode cL_law 572 = .ok (.iadd, 1) := by decide +kernel
theorem dL_law_573 : decode cL_law 573 = .ok (.iaload, 1) := by decide +kernel
theorem dL_law_574 : decode cL_law 574 = .ok (.aload_n 0, 1) := by decide +kernel
theorem dL_law_575 : decode cL_law 575 = .ok (.iload_n 3, 1) := by decide +kernel
theorem dL_law_576 : decode cL_law 576 = .ok (.iconst 2, 1) := by decide +kernel
theorem dL_law_577 : decode cL_law 577 = .ok (.iadd, 1) := by decide +kernel
theorem dL_law_578 : decode cL_law 578 = .ok (.iaload, 1) := by decide +kernel
theorem dL_law_579 : decode cL_law 579 = .ok (.invokevirtual 59, 3) := by decide +kernel
theorem dL_law_582 : decode cL_law 582 = .ok (.aload_n 2, 1) := by decide +kernel
theorem dL_law_583 : decode cL_law 583 = .ok (.aload_n 0, 1) := by decide +kernel
theorem dL_law_584 : decode cL_law 584 = .ok (.iload_n 3, 1) := by decide +kernel
theorem dL_law_585 : decode cL_law 585 = .ok (.iconst 1, 1) := by decide +kernel
theorem dL_law_586 : decode cL_law 586 = .ok (.iadd, 1) := by decide +kernel
theorem dL_law_587 : decode cL_law 587 = .ok (.iaload, 1) := by decide +kernel
theorem dL_law_588 : decode cL_law 588 = .ok (.aload_n 0, 1) := by decide +kernel
theorem dL_law_589 : decode cL_law 589 = .ok (.iload_n 3, 1) := by decide +kernel
theorem dL_law_590 : decode cL_law 590 = .ok (.iconst 2, 1) := by decide +kernel
theorem dL_law_591 : decode cL_law 591 = .ok (.iadd, 1) := by decide +kernel
theorem dL_law_592 : decode cL_law 592 = .ok (.iaload, 1) := by decide +kernel
theorem dL_law_593 : decode cL_law 593 = .ok (.invokevirtual 62, 3) := by decide +kernel
theorem dL_law_596 : decode cL_law 596 = .ok (.if_icmp .eq 231, 3) := by decide +kernel
theorem dL_law_599 : decode cL_law 599 = .ok (.iconst 0, 1) := by decide +kernel
theorem dL_law_600 : decode cL_law 600 = .ok (.ireturn, 1) := by decide +kernel
theorem dL_law_601 : decode cL_law 601 = .ok (.aload_n 1, 1) := by decide +kernel
theorem dL_law_602 : decode cL_law 602 = .ok (.aload_n 0, 1) := by decide +kernel
theorem dL_law_603 : decode cL_law 603 = .ok (.iload_n 3, 1) := by decide +kernel
theorem dL_law_604 : decode cL_law 604 = .ok (.iconst 1, 1) := by decide +kernel
theorem dL_law_605 : decode cL_law 605 = .ok (.iadd, 1) := by decide +kernel
theorem dL_law_606 : decode cL_law 606 = .ok (.iaload, 1) := by decide +kernel
theorem dL_law_607 : decode cL_law 607 = .ok (.invokevirtual 63, 3) := by decide +kernel
theorem dL_law_610 : decode cL_law 610 = .ok (.aload_n 2, 1) := by decide +kernel
theorem dL_law_611 : decode cL_law 611 = .ok (.aload_n 0, 1) := by decide +kernel
theorem dL_law_612 : decode cL_law 612 = .ok (.iload_n 3, 1) := by decide +kernel
theorem dL_law_613 : decode cL_law 613 = .ok (.iconst 1, 1) := by decide +kernel
theorem dL_law_614 : decode cL_law 614 = .ok (.iadd, 1) := by decide +kernel
theorem dL_law_615 : decode cL_law 615 = .ok (.iaload, 1) := by decide +kernel
theorem dL_law_616 : decode cL_law 616 = .ok (.invokevirtual 66, 3) := by decide +kernel
theorem dL_law_619 : decode cL_law 619 = .ok (.if_icmp .eq 208, 3) := by decide +kernel
theorem dL_law_622 : decode cL_law 622 = .ok (.iconst 0, 1) := by decide +kernel
theorem dL_law_623 : decode cL_law 623 = .ok (.ireturn, 1) := by decide +kernel
theorem dL_law_624 : decode cL_law 624 = .ok (.aload_n 1, 1) := by decide +kernel
theorem dL_law_625 : decode cL_law 625 = .ok (.aload_n 0, 1) := by decide +kernel
theorem dL_law_626 : decode cL_law 626 = .ok (.iload_n 3, 1) := by decide +kernel
theorem dL_law_627 : decode cL_law 627 = .ok (.iconst 1, 1) := by decide +kernel
theorem dL_law_628 : decode cL_law 628 = .ok (.iadd, 1) := by decide +kernel
theorem dL_law_629 : decode cL_law 629 = .ok (.iaload, 1) := by decide +kernel
theorem dL_law_630 : decode cL_law 630 = .ok (.aload_n 0, 1) := by decide +kernel
theorem dL_law_631 : decode cL_law 631 = .ok (.iload_n 3, 1) := by decide +kernel
theorem dL_law_632 : decode cL_law 632 = .ok (.iconst 2, 1) := by decide +kernel
theorem dL_law_633 : decode cL_law 633 = .ok (.iadd, 1) := by decide +kernel
theorem dL_law_634 : decode cL_law 634 = .ok (.iaload, 1) := by decide +kernel
theorem dL_law_635 : decode cL_law 635 = .ok (.invokevirtual 67, 3) := by decide +kernel
theorem dL_law_638 : decode cL_law 638 = .ok (.aload_n 2, 1) := by decide +kernel
theorem dL_law_639 : decode cL_law 639 = .ok (.aload_n 0, 1) := by decide +kernel
theorem dL_law_640 : decode cL_law 640 = .ok (.iload_n 3, 1) := by decide +kernel
theorem dL_law_641 : decode cL_law 641 = .ok (.iconst 1, 1) := by decide +kernel
theorem dL_law_642 : decode cL_law 642 = .ok (.iadd, 1) := by decide +kernel
theorem dL_law_643 : decode cL_law 643 = .ok (.iaload, 1) := by decide +kernel
theorem dL_law_644 : decode cL_law 644 = .ok (.aload_n 0, 1) := by decide +kernel
theorem dL_law_645 : decode cL_law 645 = .ok (.iload_n 3, 1) := by decide +kernel
theorem dL_law_646 : decode cL_law 646 = .ok (.iconst 2, 1) := by decide +kernel
theorem dL_law_647 : decode cL_law 647 = .ok (.iadd, 1) := by decide +kernel
theorem dL_law_648 : decode cL_law 648 = .ok (.iaload, 1) := by decide +kernel
theorem dL_law_649 : decode cL_law 649 = .ok (.invokevirtual 70, 3) := by decide +kernel
theorem dL_law_652 : decode cL_law 652 = .ok (.if_icmp .eq 175, 3) := by decide +kernel
theorem dL_law_655 : decode cL_law 655 = .ok (.iconst 0, 1) := by decide +kernel
theorem dL_law_656 : decode cL_law 656 = .ok (.ireturn, 1) := by decide +kernel
theorem dL_law_657 : decode cL_law 657 = .ok (.aload_n 1, 1) := by decide +kernel
theorem dL_law_658 : decode cL_law 658 = .ok (.aload_n 0, 1) := by decide +kernel
theorem dL_law_659 : decode cL_law 659 = .ok (.iload_n 3, 1) := by decide +kernel
theorem dL_law_660 : decode cL_law 660 = .ok (.iconst 1, 1) := by decide +kernel
theorem dL_law_661 : decode cL_law 661 = .ok (.iadd, 1) := by decide +kernel
theorem dL_law_662 : decode cL_law 662 = .ok (.iaload, 1) := by decide +kernel
theorem dL_law_663 : decode cL_law 663 = .ok (.aload_n 0, 1) := by decide +kernel
theorem dL_law_664 : decode cL_law 664 = .ok (.iload_n 3, 1) := by decide +kernel
theorem dL_law_665 : decode cL_law 665 = .ok (.iconst 2, 1) := by decide +kernel
theorem dL_law_666 : decode cL_law 666 = .ok (.iadd, 1) := by decide +kernel
theorem dL_law_667 : decode cL_law 667 = .ok (.iaload, 1) := by decide +kernel
theorem dL_law_668 : decode cL_law 668 = .ok (.invokevirtual 71, 3) := by decide +kernel
theorem dL_law_671 : decode cL_law 671 = .ok (.aload_n 2, 1) := by decide +kernel
theorem dL_law_672 : decode cL_law 672 = .ok (.aload_n 0, 1) := by decide +kernel
theorem dL_law_673 : decode cL_law 673 = .ok (.iload_n 3, 1) := by decide +kernel
theorem dL_law_674 : decode cL_law 674 = .ok (.iconst 1, 1) := by decide +kernel
theorem dL_law_675 : decode cL_law 675 = .ok (.iadd, 1) := by decide +kernel
theorem dL_law_676 : decode cL_law 676 = .ok (.iaload, 1) := by decide +kernel
theorem dL_law_677 : decode cL_law 677 = .ok (.aload_n 0, 1) := by decide +kernel
theorem dL_law_678 : decode cL_law 678 = .ok (.iload_n 3, 1) := by decide +kernel
theorem dL_law_679 : decode cL_law 679 = .ok (.iconst 2, 1) := by decide +kernel
theorem dL_law_680 : decode cL_law 680 = .ok (.iadd, 1) := by decide +kernel
theorem dL_law_681 : decode cL_law 681 = .ok (.iaload, 1) := by decide +kernel
theorem dL_law_682 : decode cL_law 682 = .ok (.invokevirtual 74, 3) := by decide +kernel
theorem dL_law_685 : decode cL_law 685 = .ok (.if_icmp .eq 142, 3) := by decide +kernel
theorem dL_law_688 : decode cL_law 688 = .ok (.iconst 0, 1) := by decide +kernel
theorem dL_law_689 : decode cL_law 689 = .ok (.ireturn, 1) := by decide +kernel
theorem dL_law_690 : decode cL_law 690 = .ok (.aload_n 1, 1) := by decide +kernel
theorem dL_law_691 : decode cL_law 691 = .ok (.aload_n 0, 1) := by decide +kernel
theorem dL_law_692 : decode cL_law 692 = .ok (.iload_n 3, 1) := by decide +kernel
theorem dL_law_693 : decode cL_law 693 = .ok (.iconst 1, 1) := by decide +kernel
theorem dL_law_694 : decode cL_law 694 = .ok (.iadd, 1) := by decide +kernel
theorem dL_law_695 : decode cL_law 695 = .ok (.iaload, 1) := by decide +kernel
theorem dL_law_696 : decode cL_law 696 = .ok (.aload_n 0, 1) := by decide +kernel
theorem dL_law_697 : decode cL_law 697 = .ok (.iload_n 3, 1) := by decide +kernel
theorem dL_law_698 : decode cL_law 698 = .ok (.iconst 2, 1) := by decide +kernel
theorem dL_law_699 : decode cL_law 699 = .ok (.iadd, 1) := by decide +kernel
theorem dL_law_700 : decode cL_law 700 = .ok (.iaload, 1) := by decide +kernel
theorem dL_law_701 : decode cL_law 701 = .ok (.invokevirtual 75, 3) := by decide +kernel
theorem dL_law_704 : decode cL_law 704 = .ok (.aload_n 2, 1) := by decide +kernel
theorem dL_law_705 : decode cL_law 705 = .ok (.aload_n 0, 1) := by decide +kernel
theorem dL_law_706 : decode cL_law 706 = .ok (.iload_n 3, 1) := by decide +kernel
theorem dL_law_707 : decode cL_law 707 = .ok (.iconst 1, 1) := by decide +kernel
theorem dL_law_708 : decode cL_law 708 = .ok (.iadd, 1) := by decide +kernel
theorem dL_law_709 : decode cL_law 709 = .ok (.iaload, 1) := by decide +kernel
theorem dL_law_710 : decode cL_law 710 = .ok (.aload_n 0, 1) := by decide +kernel
theorem dL_law_711 : decode cL_law 711 = .ok (.iload_n 3, 1) := by decide +kernel
theorem dL_law_712 : decode cL_law 712 = .ok (.iconst 2, 1) := by decide +kernel
theorem dL_law_713 : decode cL_law 713 = .ok (.iadd, 1) := by decide +kernel
theorem dL_law_714 : decode cL_law 714 = .ok (.iaload, 1) := by decide +kernel
theorem dL_law_715 : decode cL_law 715 = .ok (.invokevirtual 78, 3) := by decide +kernel
theorem dL_law_718 : decode cL_law 718 = .ok (.if_icmp .eq 109, 3) := by decide +kernel
theorem dL_law_721 : decode cL_law 721 = .ok (.iconst 0, 1) := by decide +kernel
theorem dL_law_722 : decode cL_law 722 = .ok (.ireturn, 1) := by decide +kernel
theorem dL_law_723 : decode cL_law 723 = .ok (.aload_n 1, 1) := by decide +kernel
theorem dL_law_724 : decode cL_law 724 = .ok (.aload_n 0, 1) := by decide +kernel
theorem dL_law_725 : decode cL_law 725 = .ok (.iload_n 3, 1) := by decide +kernel
theorem dL_law_726 : decode cL_law 726 = .ok (.iconst 1, 1) := by decide +kernel
theorem dL_law_727 : decode cL_law 727 = .ok (.iadd, 1) := by decide +kernel
theorem dL_law_728 : decode cL_law 728 = .ok (.iaload, 1) := by decide +kernel
theorem dL_law_729 : decode cL_law 729 = .ok (.aload_n 0, 1) := by decide +kernel
theorem dL_law_730 : decode cL_law 730 = .ok (.iload_n 3, 1) := by decide +kernel
theorem dL_law_731 : decode cL_law 731 = .ok (.iconst 2, 1) := by decide +kernel
theorem dL_law_732 : decode cL_law 732 = .ok (.iadd, 1) := by decide +kernel
theorem dL_law_733 : decode cL_law 733 = .ok (.iaload, 1) := by decide +kernel
theorem dL_law_734 : decode cL_law 734 = .ok (.aload_n 0, 1) := by decide +kernel
theorem dL_law_735 : decode cL_law 735 = .ok (.iload_n 3, 1) := by decide +kernel
theorem dL_law_736 : decode cL_law 736 = .ok (.iconst 3, 1) := by decide +kernel
theorem dL_law_737 : decode cL_law 737 = .ok (.iadd, 1) := by decide +kernel
theorem dL_law_738 : decode cL_law 738 = .ok (.iaload, 1) := by decide +kernel
theorem dL_law_739 : decode cL_law 739 = .ok (.aload_n 0, 1) := by decide +kernel
theorem dL_law_740 : decode cL_law 740 = .ok (.iload_n 3, 1) := by decide +kernel
theorem dL_law_741 : decode cL_law 741 = .ok (.iconst 4, 1) := by decide +kernel
theorem dL_law_742 : decode cL_law 742 = .ok (.iadd, 1) := by decide +kernel
theorem dL_law_743 : decode cL_law 743 = .ok (.iaload, 1) := by decide +kernel
theorem dL_law_744 : decode cL_law 744 = .ok (.invokevirtual 79, 3) := by decide +kernel
theorem dL_law_747 : decode cL_law 747 = .ok (.aload_n 2, 1) := by decide +kernel
theorem dL_law_748 : decode cL_law 748 = .ok (.aload_n 0, 1) := by decide +kernel
theorem dL_law_749 : decode cL_law 749 = .ok (.iload_n 3, 1) := by decide +kernel
theorem dL_law_750 : decode cL_law 750 = .ok (.iconst 1, 1) := by decide +kernel
theorem dL_law_751 : decode cL_law 751 = .ok (.iadd, 1) := by decide +kernel
theorem dL_law_752 : decode cL_law 752 = .ok (.iaload, 1) := by decide +kernel
theorem dL_law_753 : decode cL_law 753 = .ok (.aload_n 0, 1) := by decide +kernel
theorem dL_law_754 : decode cL_law 754 = .ok (.iload_n 3, 1) := by decide +kernel
theorem dL_law_755 : decode cL_law 755 = .ok (.iconst 2, 1) := by decide +kernel
theorem dL_law_756 : decode cL_law 756 = .ok (.iadd, 1) := by decide +kernel
theorem dL_law_757 : decode cL_law 757 = .ok (.iaload, 1) := by decide +kernel
theorem dL_law_758 : decode cL_law 758 = .ok (.aload_n 0, 1) := by decide +kernel
theorem dL_law_759 : decode cL_law 759 = .ok (.iload_n 3, 1) := by decide +kernel
theorem dL_law_760 : decode cL_law 760 = .ok (.iconst 3, 1) := by decide +kernel
theorem dL_law_761 : decode cL_law 761 = .ok (.iadd, 1) := by decide +kernel
theorem dL_law_762 : decode cL_law 762 = .ok (.iaload, 1) := by decide +kernel
theorem dL_law_763 : decode cL_law 763 = .ok (.aload_n 0, 1) := by decide +kernel
theorem dL_law_764 : decode cL_law 764 = .ok (.iload_n 3, 1) := by decide +kernel
theorem dL_law_765 : decode cL_law 765 = .ok (.iconst 4, 1) := by decide +kernel
theorem dL_law_766 : decode cL_law 766 = .ok (.iadd, 1) := by decide +kernel
theorem dL_law_767 : decode cL_law 767 = .ok (.iaload, 1) := by decide +kernel
theorem dL_law_768 : decode cL_law 768 = .ok (.invokevirtual 83, 3) := by decide +kernel
theorem dL_law_771 : decode cL_law 771 = .ok (.if_icmp .eq 56, 3) := by decide +kernel
theorem dL_law_774 : decode cL_law 774 = .ok (.iconst 0, 1) := by decide +kernel
theorem dL_law_775 : decode cL_law 775 = .ok (.ireturn, 1) := by decide +kernel
theorem dL_law_776 : decode cL_law 776 = .ok (.aload_n 1, 1) := by decide +kernel
theorem dL_law_777 : decode cL_law 777 = .ok (.invokevirtual 84, 3) := by decide +kernel
theorem dL_law_780 : decode cL_law 780 = .ok (.aload_n 2, 1) := by decide +kernel
theorem dL_law_781 : decode cL_law 781 = .ok (.invokevirtual 88, 3) := by decide +kernel
theorem dL_law_784 : decode cL_law 784 = .ok (.lcmp, 1) := by decide +kernel
theorem dL_law_785 : decode cL_law 785 = .ok (.ifCond .eq 42, 3) := by decide +kernel
theorem dL_law_788 : decode cL_law 788 = .ok (.iconst 0, 1) := by decide +kernel
theorem dL_law_789 : decode cL_law 789 = .ok (.ireturn, 1) := by decide +kernel
theorem dL_law_790 : decode cL_law 790 = .ok (.aload_n 1, 1) := by decide +kernel
theorem dL_law_791 : decode cL_law 791 = .ok (.aload_n 0, 1) := by decide +kernel
theorem dL_law_792 : decode cL_law 792 = .ok (.iload_n 3, 1) := by decide +kernel
theorem dL_law_793 : decode cL_law 793 = .ok (.iconst 1, 1) := by decide +kernel
theorem dL_law_794 : decode cL_law 794 = .ok (.iadd, 1) := by decide +kernel
theorem dL_law_795 : decode cL_law 795 = .ok (.iaload, 1) := by decide +kernel
theorem dL_law_796 : decode cL_law 796 = .ok (.invokevirtual 89, 3) := by decide +kernel
theorem dL_law_799 : decode cL_law 799 = .ok (.aload_n 2, 1) := by decide +kernel
theorem dL_law_800 : decode cL_law 800 = .ok (.aload_n 0, 1) := by decide +kernel
theorem dL_law_801 : decode cL_law 801 = .ok (.iload_n 3, 1) := by decide +kernel
theorem dL_law_802 : decode cL_law 802 = .ok (.iconst 1, 1) := by decide +kernel
theorem dL_law_803 : decode cL_law 803 = .ok (.iadd, 1) := by decide +kernel
theorem dL_law_804 : decode cL_law 804 = .ok (.iaload, 1) := by decide +kernel
theorem dL_law_805 : decode cL_law 805 = .ok (.invokevirtual 92, 3) := by decide +kernel
theorem dL_law_808 : decode cL_law 808 = .ok (.if_icmp .eq 19, 3) := by decide +kernel
theorem dL_law_811 : decode cL_law 811 = .ok (.iconst 0, 1) := by decide +kernel
theorem dL_law_812 : decode cL_law 812 = .ok (.ireturn, 1) := by decide +kernel
theorem dL_law_813 : decode cL_law 813 = .ok (.aload_n 1, 1) := by decide +kernel
theorem dL_law_814 : decode cL_law 814 = .ok (.invokevirtual 93, 3) := by decide +kernel
theorem dL_law_817 : decode cL_law 817 = .ok (.aload_n 2, 1) := by decide +kernel
theorem dL_law_818 : decode cL_law 818 = .ok (.invokevirtual 96, 3) := by decide +kernel
theorem dL_law_821 : decode cL_law 821 = .ok (.lcmp, 1) := by decide +kernel
theorem dL_law_822 : decode cL_law 822 = .ok (.ifCond .eq 5, 3) := by decide +kernel
theorem dL_law_825 : decode cL_law 825 = .ok (.iconst 0, 1) := by decide +kernel
theorem dL_law_826 : decode cL_law 826 = .ok (.ireturn, 1) := by decide +kernel
theorem dL_law_827 : decode cL_law 827 = .ok (.iinc 3 7, 3) := by decide +kernel
theorem dL_law_830 : decode cL_law 830 = .ok (.goto (-812), 3) := by decide +kernel
theorem dL_law_833 : decode cL_law 833 = .ok (.iconst 1, 1) := by decide +kernel
theorem dL_law_834 : decode cL_law 834 = .ok (.ireturn, 1) := by decide +kernel
end
section
/-! the typed heap: kinds, next free number, its limit, int fields, reference fields, long fields, int rows, reference rows, lengths -/
abbrev xS : Type := (Nat → Nat) × Nat × Nat × (Nat → Nat → Int32) × (Nat → Nat → Option Nat) × (Nat → Nat → Int64) × (Nat → Nat → Int32) × (Nat → Nat → Option Nat) × (Nat → Nat)
def xh_k (σ : xS) : Nat → Nat := σ.1
def xh_n (σ : xS) : Nat := σ.2.1
def xh_m (σ : xS) : Nat := σ.2.2.1
def xh_I (σ : xS) : Nat → Nat → Int32 := σ.2.2.2.1
def xh_R (σ : xS) : Nat → Nat → Option Nat := σ.2.2.2.2.1
def xh_L (σ : xS) : Nat → Nat → Int64 := σ.2.2.2.2.2.1
def xh_a (σ : xS) : Nat → Nat → Int32 := σ.2.2.2.2.2.2.1
def xh_q (σ : xS) : Nat → Nat → Option Nat := σ.2.2.2.2.2.2.2.1
def xh_z (σ : xS) : Nat → Nat := σ.2.2.2.2.2.2.2.2
def xu_2 {α : Type} (F : Nat → Nat → α) (f a : Nat) (v : α) : Nat → Nat → α := fun g b => if g = f ∧ b = a then v else F g b
def xs_I (σ : xS) (f a : Nat) (v : Int32) : xS := (xh_k σ, xh_n σ, xh_m σ, xu_2 (xh_I σ) f a v, xh_R σ, xh_L σ, xh_a σ, xh_q σ, xh_z σ)
def xs_R (σ : xS) (f a : Nat) (v : Option Nat) : xS := (xh_k σ, xh_n σ, xh_m σ, xh_I σ, xu_2 (xh_R σ) f a v, xh_L σ, xh_a σ, xh_q σ, xh_z σ)
def xs_L (σ : xS) (f a : Nat) (v : Int64) : xS := (xh_k σ, xh_n σ, xh_m σ, xh_I σ, xh_R σ, xu_2 (xh_L σ) f a v, xh_a σ, xh_q σ, xh_z σ)
def xs_a (σ : xS) (a i : Nat) (v : Int32) : xS := (xh_k σ, xh_n σ, xh_m σ, xh_I σ, xh_R σ, xh_L σ, xu_2 (xh_a σ) a i v, xh_q σ, xh_z σ)
def xs_q (σ : xS) (a i : Nat) (v : Option Nat) : xS := (xh_k σ, xh_n σ, xh_m σ, xh_I σ, xh_R σ, xh_L σ, xh_a σ, xu_2 (xh_q σ) a i v, xh_z σ)
/-- a new object of the class ci: its fields are 0, null -/
def xs_new (σ : xS) (ci : Nat) : xS := (va_up (xh_k σ) (xh_n σ) (ci + 1), xh_n σ + 1, xh_m σ, (fun g b => if b = xh_n σ then 0 else xh_I σ g b), (fun g b => if b = xh_n σ then none else xh_R σ g b), (fun g b => if b = xh_n σ then 0 else xh_L σ g b), xh_a σ, xh_q σ, xh_z σ)
/-- a new array of the kind k (9 int, 10 boolean, 11 .. 14 references), of n places -/
def xs_arr (σ : xS) (k n : Nat) : xS := (va_up (xh_k σ) (xh_n σ) k, xh_n σ + 1, xh_m σ, xh_I σ, xh_R σ, xh_L σ, (fun b i => if b = xh_n σ then 0 else xh_a σ b i), (fun b i => if b = xh_n σ then none else xh_q σ b i), va_up (xh_z σ) (xh_n σ) n)
-- classes
def xf_ty (ci k : Nat) : FieldType := match ci with
  | 0 => tyX0 k
  | 1 => tyX1 k
  | 2 => tyX2 k
  | 3 => tyX3 k
  | 4 => tyX4 k
  | 5 => tyX5 k
  | 6 => tyX6 k
  | _ => tyX7 k
def xf_N (ci : Nat) : Nat := match ci with
  | 0 => 3
  | 1 => 13
  | 2 => 9
  | 3 => 9
  | 4 => 3
  | 5 => 4
  | 6 => 10
  | _ => 59
def xf_C (ci : Nat) : String := match ci with
  | 0 => RX0
  | 1 => RX1
  | 2 => RX2
  | 3 => RX3
  | 4 => RX4
  | 5 => RX5
  | 6 => RX6
  | _ => RX7
def xf_T (ci : Nat) : u_T := match ci with
  | 0 => TX0
  | 1 => TX1
  | 2 => TX2
  | 3 => TX3
  | 4 => TX4
  | 5 => TX5
  | 6 => TX6
  | _ => TX7
/-- the sort of a field: 0 a number of 32 bits, 1 a reference, 2 a long -/
def xf_s (ty : FieldType) : Nat := match ty with
  | .object _ => 1
  | .array _ => 1
  | .long => 2
  | _ => 0
def xf_v (σ : xS) (ci k a : Nat) : Value := if xf_s (xf_ty ci k) = 1 then va_rf (xh_R σ (64 * ci + k) a) else if xf_s (xf_ty ci k) = 2 then .long (xh_L σ (64 * ci + k) a) else .int (xh_I σ (64 * ci + k) a)
abbrev xG : Type := va_G × (Nat → ClassId)
abbrev xT (G : xG) : List (ClassId × FieldType) := [(G.2 0, .int), (G.2 1, .boolean), (G.2 2, .object RX3), (G.2 3, .object RX2), (G.2 4, .object RX4), (G.2 5, .object RX5)]
/-- the heap holds the typed heap -/
def xr (G : xG) (σ : xS) (H : Heap) : Prop :=
  (∀ a ci, xh_k σ a = ci + 1 → ci < 8 → t_OB a (G.1.1 ci) (xf_N ci) (G.1.2 ci) H (fun j => xf_v σ ci j a)) ∧
  (∀ a t, xh_k σ a = t + 9 → t < 2 → H[a]? = some (arrV (G.2 t) (xh_z σ a) (fun j => .int (xh_a σ a j)))) ∧
  (∀ a t, xh_k σ a = t + 11 → t < 4 → H[a]? = some (arrV (G.2 (t + 2)) (xh_z σ a) (fun j => va_rf (xh_q σ a j)))) ∧
  (∀ a, xh_k σ a < 15) ∧ (∀ a, xh_k σ a ≠ 0 → a < H.size)
def xtot (H : Heap) : Nat := H.foldl (fun n c => n + c.slots.size) 0
/-- the words of the tables that every call may take along -/
def xTb : List Cond := lw_tbl.filter goodWord
-- a method: its name, code, number of local places, type of the answer, frames and words of its room
abbrev xM : Type := MethodName × ByteArray × Nat × Option FieldType × Nat × Nat
abbrev xm_y (M : xM) : MethodName := M.1
abbrev xm_c (M : xM) : ByteArray := M.2.1
abbrev xm_n (M : xM) : Nat := M.2.2.1
abbrev xm_r (M : xM) : Option FieldType := M.2.2.2.1
abbrev xm_f (M : xM) : Nat := M.2.2.2.2.1
abbrev xm_l (M : xM) : Nat := M.2.2.2.2.2
def xW (M : xM) : List Cond := Cond.code (xm_y M) (xm_c M) (xm_n M) (xm_r M) :: xTb
def xa_c (t : Nat) : Nat := match t with
  | 0 => 3
  | 1 => 2
  | 2 => 4
  | _ => 5
/-- the links between nest mates that aren't among the words -/
def xNw (U : State) : Prop := (va_Nw (.methodLinkNest RX6 35 yX0_init RX6) U ∧ va_Nw (.methodLinkNest RX2 9 yX0_init RX6) U ∧ va_Nw (.methodLinkNest RX3 9 yX0_init RX6) U ∧ va_Nw (.methodLinkNest RX5 9 yX0_init RX6) U) ∧ ∀ t, t < 4 → va_AO (xf_C (xa_c t)) U
def xK (G : xG) (U : State) : Prop := va_K G.1 vwCl (xT G) U ∧ xNw U
def xA (σ : xS) : Nat → Prop := fun a => xh_k σ a ≠ 0 ∨ xh_n σ ≤ a
/-- the room: what is behind B.1 cells, B.2 slots -/
abbrev xR (B : Nat × Nat) (f l sz sl : Nat) : Room := { frames := f, cells := B.1 + 18000 - sz, slots := B.2 + 7200000 - sl, locals := l }
/-- what the heap and the numbers are at any time -/
def xE (B : Nat × Nat) (G : xG) (σ : xS) (H : Heap) : Prop := xr G σ H ∧ H.size = xh_n σ ∧ xh_m σ = B.1 + 18000 ∧ B.1 ≤ xh_n σ ∧ xh_n σ ≤ xh_m σ
def xP (B : Nat × Nat) (G : xG) (σ : xS) (sl : Nat) (U : State) : Prop := xE B G σ U.heap ∧ xtot U.heap = sl ∧ sl ≤ B.2 + 400 * (xh_n σ - B.1) ∧ xK G U
def xQ (B : Nat × Nat) (G : xG) (A : Nat → Prop) (Q : Option Value → xS → Prop) : Array Value → State → Outcome → State → Prop := fun _ st o t =>
  ∃ (r : Option Value) (σ : xS), o = .returned r ∧ Q r σ ∧ xE B G σ t.heap ∧ xtot t.heap ≤ B.2 + 400 * (xh_n σ - B.1) ∧ (∀ a, xh_k σ a ≠ 0 → A a) ∧ va_F A st t
/-- A CONTRACT: from the typed heap σ the method M returns, with Q of its answer and of the typed heap then -/
def xCt (M : xM) (av : List Value) (σ : xS) (Q : Option Value → xS → Prop) : Prop := ∀ (l : Launch) (B : Nat × Nat) (G : xG) (sl : Nat),
  Met l (xm_y M) (xW M) (xR B (xm_f M) (xm_l M) (xh_n σ) sl) (va_Pc av (xP B G σ sl)) (xQ B G (xA σ) Q) (B.1 + 18000 - xh_n σ) (B.2 + 7200000 - sl) (xA σ)
/-- what holds all through a method's body -/
def xC (M : xM) (B : Nat × Nat) (G : xG) (A : Nat → Prop) (p : Program) (R : Room) (s : State) (m : MethodId) (args : Array Value) (meth : Method) (c : Code) : Prop :=
  p.tables.exec = Jvm.exec ∧ c.code = xm_c M ∧ meth.sig.returnType = xm_r M ∧ c.maxLocals = xm_n M ∧ s.vm.findClass (xm_y M).cls = some m.cls ∧ (∀ w ∈ xW M, w.before args s = true) ∧ xK G s ∧ meth.locks = false ∧ meth.name = (xm_y M).name ∧ (∀ q, s.heap.size ≤ q → A q) ∧
  R = xR B (xm_f M) (xm_l M) s.heap.size (xtot s.heap) ∧ B.1 ≤ s.heap.size
/-- where the body is: the heap, and what is spent -/
def xL (B : Nat × Nat) (G : xG) (A : Nat → Prop) (s : State) (σ : xS) (H : Heap) (locs : List Loc) (cells slots : Nat) : Prop :=
  xE B G σ H ∧ va_S A s.heap H locs ∧ (∀ a, xh_k σ a ≠ 0 → A a) ∧ cells + s.heap.size = H.size ∧ xtot s.heap + slots ≤ B.2 + 400 * (H.size - B.1)
/-- THE WALK: the method M stands at pc, with the local values lv, the operands st, over the typed heap σ: it returns, with Q -/
def xX (M : xM) (pc : Nat) (lv : List (Nat × Value)) (st : List Value) (σ : xS) (Q : Option Value → xS → Prop) : Prop :=
  ∀ (l : Launch) (B : Nat × Nat) (G : xG) (A : Nat → Prop) (p : Program) (e : Env) (R : Room) (s : State) (m : MethodId) (args : Array Value) (below : List Frame) (meth : Method) (c : Code), xC M B G A p R s m args meth c →
  ∀ (H : Heap) (locs : List Loc) (cells slots : Nat), xL B G A s σ H locs cells slots → ∀ (ls : Array Slot), lv_has ls (xm_n M) lv →
    W p l e R s m args below meth c H locs cells slots (MQ below (xQ B G A Q) args s R.cells R.slots A) (F0 m pc ls st)
section XW
variable {p : Program} {l : Launch} {e : Env} {R : Room} {s : State} {m : MethodId} {args : Array Value} {below : List Frame} {meth : Method} {c : Code} {H : Heap} {locs : List Loc} {cells slots : Nat} {Q : State → Prop} {g : JFrame}
theorem xw_sums {T : State} (X : Stand p l e R s m args below meth c T locs cells slots) : xtot s.heap ≤ xtot T.heap ∧ xtot T.heap ≤ xtot s.heap + slots := by
  have h0 : s.slotsTrue = true := by
    have h := X.room
    simp only [State.hasRoom, Bool.and_eq_true] at h
    exact h.2
  have h1 := X.book
  have h2 := X.used
  have h3 : T.slotsUsed = s.slotsUsed + _ := X.same.2.2.2.1
  have e0 : s.slotsUsed = xtot s.heap := by simpa [State.slotsTrue, xtot] using h0
  have e1 : T.slotsUsed = xtot T.heap := by simpa [State.slotsTrue, xtot] using h1
  constructor
  · rw [← e0, ← e1, h3]; exact Nat.le_add_right _ _
  · rw [← e0, ← e1]; exact h2
/-- what the book of the slots says may be used at any time -/
theorem xw_used (kk : xtot s.heap ≤ xtot H → xtot H ≤ xtot s.heap + slots → W p l e R s m args below meth c H locs cells slots Q g) : W p l e R s m args below meth c H locs cells slots Q g := by
  intro T hT X
  have h := xw_sums X
  rw [hT] at h
  exact kk h.1 h.2 T hT X
/-- what is spent is what the heap shows -/
theorem xw_tight {k n : Nat} (h1 : H.size ≤ s.heap.size + k) (h2 : xtot H ≤ xtot s.heap + n) (kk : W p l e R s m args below meth c H locs k n Q g) : W p l e R s m args below meth c H locs cells slots Q g := by
  intro T hT X
  refine kk T hT { X with same := ?_ }
  have hs := xw_sums X
  obtain ⟨e1, e2, e3, e4, e5, e6⟩ := X.same
  have h0 : s.slotsTrue = true := by
    have h := X.room
    simp only [State.hasRoom, Bool.and_eq_true] at h
    exact h.2
  have e0 : s.slotsUsed = xtot s.heap := by simpa [State.slotsTrue, xtot] using h0
  have eT : T.slotsUsed = xtot T.heap := by simpa [State.slotsTrue, xtot] using X.book
  refine ⟨e1, e2, ?_, e4, ?_, e6⟩
  · show T.heap.size ≤ _
    rw [hT]; exact h1
  · have e4' : T.slotsUsed = s.slotsUsed + _ := e4
    rw [eT, hT, e0] at e4'
    exact Nat.le_of_add_le_add_left (by rw [← e4']; exact h2)
end XW
end
section
theorem xcat (r : Option Nat) : (va_rf r).category = 1 := by cases r <;> rfl
theorem x_iconst {M : xM} {pc : Nat} {lv : List (Nat × Value)} {st : List Value} {σ : xS} {Q : Option Value → xS → Prop} {n : Int} {v : Int32} (hd : decode (xm_c M) pc = .ok (.iconst n, 1)) (hv : Int32.ofInt n = v) (k : xX M (pc + 1) lv (.int v :: st) σ Q) : xX M pc lv (st) σ Q := fun l B G A p e R s m args below meth c C H locs cells slots L ls hl => lv_iconst C.1 C.2.1 hd hv (k l B G A p e R s m args below meth c C H locs cells slots L ls hl)
theorem x_bipush {M : xM} {pc : Nat} {lv : List (Nat × Value)} {st : List Value} {σ : xS} {Q : Option Value → xS → Prop} {n : Int} {v : Int32} (hd : decode (xm_c M) pc = .ok (.bipush n, 2)) (hv : (Int8.ofInt n).toInt32 = v) (k : xX M (pc + 2) lv (.int v :: st) σ Q) : xX M pc lv (st) σ Q := fun l B G A p e R s m args below meth c C H locs cells slots L ls hl => lv_bipush C.1 C.2.1 hd hv (k l B G A p e R s m args below meth c C H locs cells slots L ls hl)
theorem x_sipush {M : xM} {pc : Nat} {lv : List (Nat × Value)} {st : List Value} {σ : xS} {Q : Option Value → xS → Prop} {n : Int} {v : Int32} (hd : decode (xm_c M) pc = .ok (.sipush n, 3)) (hv : (Int16.ofInt n).toInt32 = v) (k : xX M (pc + 3) lv (.int v :: st) σ Q) : xX M pc lv (st) σ Q := fun l B G A p e R s m args below meth c C H locs cells slots L ls hl => lv_sipush C.1 C.2.1 hd hv (k l B G A p e R s m args below meth c C H locs cells slots L ls hl)
theorem x_lconst {M : xM} {pc : Nat} {lv : List (Nat × Value)} {st : List Value} {σ : xS} {Q : Option Value → xS → Prop} {n : Fin 2} {v : Int64} (hd : decode (xm_c M) pc = .ok (.lconst n, 1)) (hv : Int64.ofNat (n : Nat) = v) (k : xX M (pc + 1) lv (.long v :: st) σ Q) : xX M pc lv (st) σ Q := fun l B G A p e R s m args below meth c C H locs cells slots L ls hl => lv_lconst C.1 C.2.1 hd hv (k l B G A p e R s m args below meth c C H locs cells slots L ls hl)
theorem x_null {M : xM} {pc : Nat} {lv : List (Nat × Value)} {st : List Value} {σ : xS} {Q : Option Value → xS → Prop}  (hd : decode (xm_c M) pc = .ok (.aconst_null, 1))  (k : xX M (pc + 1) lv (.null :: st) σ Q) : xX M pc lv (st) σ Q := fun l B G A p e R s m args below meth c C H locs cells slots L ls hl => lv_null C.1 C.2.1 hd  (k l B G A p e R s m args below meth c C H locs cells slots L ls hl)
theorem x_iadd {M : xM} {pc : Nat} {lv : List (Nat × Value)} {st : List Value} {σ : xS} {Q : Option Value → xS → Prop} {x y : Int32} (hd : decode (xm_c M) pc = .ok (.iadd, 1))  (k : xX M (pc + 1) lv (.int (x + y) :: st) σ Q) : xX M pc lv (.int y :: .int x :: st) σ Q := fun l B G A p e R s m args below meth c C H locs cells slots L ls hl => lv_iadd C.1 C.2.1 hd  (k l B G A p e R s m args below meth c C H locs cells slots L ls hl)
theorem x_isub {M : xM} {pc : Nat} {lv : List (Nat × Value)} {st : List Value} {σ : xS} {Q : Option Value → xS → Prop} {x y : Int32} (hd : decode (xm_c M) pc = .ok (.isub, 1))  (k : xX M (pc + 1) lv (.int (x - y) :: st) σ Q) : xX M pc lv (.int y :: .int x :: st) σ Q := fun l B G A p e R s m args below meth c C H locs cells slots L ls hl => lv_isub C.1 C.2.1 hd  (k l B G A p e R s m args below meth c C H locs cells slots L ls hl)
theorem x_imul {M : xM} {pc : Nat} {lv : List (Nat × Value)} {st : List Value} {σ : xS} {Q : Option Value → xS → Prop} {x y : Int32} (hd : decode (xm_c M) pc = .ok (.imul, 1))  (k : xX M (pc + 1) lv (.int (x * y) :: st) σ Q) : xX M pc lv (.int y :: .int x :: st) σ Q := fun l B G A p e R s m args below meth c C H locs cells slots L ls hl => lv_imul C.1 C.2.1 hd  (k l B G A p e R s m args below meth c C H locs cells slots L ls hl)
theorem x_iand {M : xM} {pc : Nat} {lv : List (Nat × Value)} {st : List Value} {σ : xS} {Q : Option Value → xS → Prop} {x y : Int32} (hd : decode (xm_c M) pc = .ok (.iand, 1))  (k : xX M (pc + 1) lv (.int (x &&& y) :: st) σ Q) : xX M pc lv (.int y :: .int x :: st) σ Q := fun l B G A p e R s m args below meth c C H locs cells slots L ls hl => lv_iand C.1 C.2.1 hd  (k l B G A p e R s m args below meth c C H locs cells slots L ls hl)
theorem x_ishr {M : xM} {pc : Nat} {lv : List (Nat × Value)} {st : List Value} {σ : xS} {Q : Option Value → xS → Prop} {x y : Int32} (hd : decode (xm_c M) pc = .ok (.ishr, 1))  (k : xX M (pc + 1) lv (.int (x >>> (y &&& 31)) :: st) σ Q) : xX M pc lv (.int y :: .int x :: st) σ Q := fun l B G A p e R s m args below meth c C H locs cells slots L ls hl => lv_ishr C.1 C.2.1 hd  (k l B G A p e R s m args below meth c C H locs cells slots L ls hl)
theorem x_idiv {M : xM} {pc : Nat} {lv : List (Nat × Value)} {st : List Value} {σ : xS} {Q : Option Value → xS → Prop} {x y : Int32} (hd : decode (xm_c M) pc = .ok (.idiv, 1)) (hne : ¬ y = 0) (k : xX M (pc + 1) lv (.int (x / y) :: st) σ Q) : xX M pc lv (.int y :: .int x :: st) σ Q := fun l B G A p e R s m args below meth c C H locs cells slots L ls hl => lv_idiv C.1 C.2.1 hd hne (k l B G A p e R s m args below meth c C H locs cells slots L ls hl)
theorem x_irem {M : xM} {pc : Nat} {lv : List (Nat × Value)} {st : List Value} {σ : xS} {Q : Option Value → xS → Prop} {x y : Int32} (hd : decode (xm_c M) pc = .ok (.irem, 1)) (hne : ¬ y = 0) (k : xX M (pc + 1) lv (.int (x - x / y * y) :: st) σ Q) : xX M pc lv (.int y :: .int x :: st) σ Q := fun l B G A p e R s m args below meth c C H locs cells slots L ls hl => lv_irem C.1 C.2.1 hd hne (k l B G A p e R s m args below meth c C H locs cells slots L ls hl)
theorem x_ineg {M : xM} {pc : Nat} {lv : List (Nat × Value)} {st : List Value} {σ : xS} {Q : Option Value → xS → Prop} {x : Int32} (hd : decode (xm_c M) pc = .ok (.ineg, 1))  (k : xX M (pc + 1) lv (.int (-x) :: st) σ Q) : xX M pc lv (.int x :: st) σ Q := fun l B G A p e R s m args below meth c C H locs cells slots L ls hl => lv_ineg C.1 C.2.1 hd  (k l B G A p e R s m args below meth c C H locs cells slots L ls hl)
theorem x_ladd {M : xM} {pc : Nat} {lv : List (Nat × Value)} {st : List Value} {σ : xS} {Q : Option Value → xS → Prop} {x y : Int64} (hd : decode (xm_c M) pc = .ok (.ladd, 1))  (k : xX M (pc + 1) lv (.long (x + y) :: st) σ Q) : xX M pc lv (.long y :: .long x :: st) σ Q := fun l B G A p e R s m args below meth c C H locs cells slots L ls hl => lv_ladd C.1 C.2.1 hd  (k l B G A p e R s m args below meth c C H locs cells slots L ls hl)
theorem x_i2l {M : xM} {pc : Nat} {lv : List (Nat × Value)} {st : List Value} {σ : xS} {Q : Option Value → xS → Prop} {x : Int32} (hd : decode (xm_c M) pc = .ok (.i2l, 1))  (k : xX M (pc + 1) lv (.long x.toInt64 :: st) σ Q) : xX M pc lv (.int x :: st) σ Q := fun l B G A p e R s m args below meth c C H locs cells slots L ls hl => lv_i2l C.1 C.2.1 hd rfl (k l B G A p e R s m args below meth c C H locs cells slots L ls hl)
theorem x_lcmp {M : xM} {pc : Nat} {lv : List (Nat × Value)} {st : List Value} {σ : xS} {Q : Option Value → xS → Prop} {x y : Int64} (hd : decode (xm_c M) pc = .ok (.lcmp, 1))  (k : xX M (pc + 1) lv (.int (lg_cmp x y) :: st) σ Q) : xX M pc lv (.long y :: .long x :: st) σ Q := fun l B G A p e R s m args below meth c C H locs cells slots L ls hl => W.lcmp C.1 C.2.1 hd  (k l B G A p e R s m args below meth c C H locs cells slots L ls hl)
theorem x_dup {M : xM} {pc : Nat} {lv : List (Nat × Value)} {st : List Value} {σ : xS} {Q : Option Value → xS → Prop} {va : Value} (hd : decode (xm_c M) pc = .ok (.dup, 1)) (hva : va.category = 1) (k : xX M (pc + 1) lv (va :: va :: st) σ Q) : xX M pc lv (va :: st) σ Q := fun l B G A p e R s m args below meth c C H locs cells slots L ls hl => lv_dup C.1 C.2.1 hd hva (k l B G A p e R s m args below meth c C H locs cells slots L ls hl)
theorem x_dup2 {M : xM} {pc : Nat} {lv : List (Nat × Value)} {st : List Value} {σ : xS} {Q : Option Value → xS → Prop} {va vb : Value} (hd : decode (xm_c M) pc = .ok (.dup2, 1)) (hva : va.category = 1) (hvb : vb.category = 1) (k : xX M (pc + 1) lv (va :: vb :: va :: vb :: st) σ Q) : xX M pc lv (va :: vb :: st) σ Q := fun l B G A p e R s m args below meth c C H locs cells slots L ls hl => lv_dup2_11 C.1 C.2.1 hd hva hvb (k l B G A p e R s m args below meth c C H locs cells slots L ls hl)
theorem x_pop {M : xM} {pc : Nat} {lv : List (Nat × Value)} {st : List Value} {σ : xS} {Q : Option Value → xS → Prop} {va : Value} (hd : decode (xm_c M) pc = .ok (.pop, 1)) (hva : va.category = 1) (k : xX M (pc + 1) lv (st) σ Q) : xX M pc lv (va :: st) σ Q := fun l B G A p e R s m args below meth c C H locs cells slots L ls hl => lv_pop C.1 C.2.1 hd hva (k l B G A p e R s m args below meth c C H locs cells slots L ls hl)
theorem x_iload_n {M : xM} {pc : Nat} {lv : List (Nat × Value)} {st : List Value} {σ : xS} {Q : Option Value → xS → Prop} {k : Fin 4} {i : Nat} {x : Int32} (hd : decode (xm_c M) pc = .ok (.iload_n k, 1)) (hi : (k : Nat) = i) (j : Nat) (hj : lv[j]? = some (i, .int x)) (kk : xX M (pc + 1) lv (.int x :: st) σ Q) : xX M pc lv st σ Q := fun l B G A p e R s m args below meth c C H locs cells slots L ls hl => lv_iload_n C.1 C.2.1 hd hi (lv_at hl j hj) (kk l B G A p e R s m args below meth c C H locs cells slots L ls hl)
theorem x_iload {M : xM} {pc : Nat} {lv : List (Nat × Value)} {st : List Value} {σ : xS} {Q : Option Value → xS → Prop} {i : Nat} {x : Int32} (hd : decode (xm_c M) pc = .ok (.iload i, 2))  (j : Nat) (hj : lv[j]? = some (i, .int x)) (kk : xX M (pc + 2) lv (.int x :: st) σ Q) : xX M pc lv st σ Q := fun l B G A p e R s m args below meth c C H locs cells slots L ls hl => lv_iload C.1 C.2.1 hd  (lv_at hl j hj) (kk l B G A p e R s m args below meth c C H locs cells slots L ls hl)
theorem x_lload_n {M : xM} {pc : Nat} {lv : List (Nat × Value)} {st : List Value} {σ : xS} {Q : Option Value → xS → Prop} {k : Fin 4} {i : Nat} {x : Int64} (hd : decode (xm_c M) pc = .ok (.lload_n k, 1)) (hi : (k : Nat) = i) (j : Nat) (hj : lv[j]? = some (i, .long x)) (kk : xX M (pc + 1) lv (.long x :: st) σ Q) : xX M pc lv st σ Q := fun l B G A p e R s m args below meth c C H locs cells slots L ls hl => lv_lload_n C.1 C.2.1 hd hi (lv_at hl j hj) (kk l B G A p e R s m args below meth c C H locs cells slots L ls hl)
theorem x_aload_n {M : xM} {pc : Nat} {lv : List (Nat × Value)} {st : List Value} {σ : xS} {Q : Option Value → xS → Prop} {k : Fin 4} {i : Nat} {x : Nat} (hd : decode (xm_c M) pc = .ok (.aload_n k, 1)) (hi : (k : Nat) = i) (j : Nat) (hj : lv[j]? = some (i, .ref x)) (kk : xX M (pc + 1) lv (.ref x :: st) σ Q) : xX M pc lv st σ Q := fun l B G A p e R s m args below meth c C H locs cells slots L ls hl => lv_aload_n C.1 C.2.1 hd hi (lv_at hl j hj) (kk l B G A p e R s m args below meth c C H locs cells slots L ls hl)
theorem x_aload {M : xM} {pc : Nat} {lv : List (Nat × Value)} {st : List Value} {σ : xS} {Q : Option Value → xS → Prop} {i : Nat} {x : Nat} (hd : decode (xm_c M) pc = .ok (.aload i, 2))  (j : Nat) (hj : lv[j]? = some (i, .ref x)) (kk : xX M (pc + 2) lv (.ref x :: st) σ Q) : xX M pc lv st σ Q := fun l B G A p e R s m args below meth c C H locs cells slots L ls hl => lv_aload C.1 C.2.1 hd  (lv_at hl j hj) (kk l B G A p e R s m args below meth c C H locs cells slots L ls hl)
theorem x_aload_nN {M : xM} {pc : Nat} {lv : List (Nat × Value)} {st : List Value} {σ : xS} {Q : Option Value → xS → Prop} {k : Fin 4} {i : Nat}  (hd : decode (xm_c M) pc = .ok (.aload_n k, 1)) (hi : (k : Nat) = i) (j : Nat) (hj : lv[j]? = some (i, .null)) (kk : xX M (pc + 1) lv (.null :: st) σ Q) : xX M pc lv st σ Q := fun l B G A p e R s m args below meth c C H locs cells slots L ls hl => lv_aload_nN C.1 C.2.1 hd hi (lv_at hl j hj) (kk l B G A p e R s m args below meth c C H locs cells slots L ls hl)
theorem x_aloadN {M : xM} {pc : Nat} {lv : List (Nat × Value)} {st : List Value} {σ : xS} {Q : Option Value → xS → Prop} {i : Nat}  (hd : decode (xm_c M) pc = .ok (.aload i, 2))  (j : Nat) (hj : lv[j]? = some (i, .null)) (kk : xX M (pc + 2) lv (.null :: st) σ Q) : xX M pc lv st σ Q := fun l B G A p e R s m args below meth c C H locs cells slots L ls hl => lv_aloadN C.1 C.2.1 hd  (lv_at hl j hj) (kk l B G A p e R s m args below meth c C H locs cells slots L ls hl)
theorem x_aload_nQ {M : xM} {pc : Nat} {lv : List (Nat × Value)} {st : List Value} {σ : xS} {Q : Option Value → xS → Prop} {k : Fin 4} {i : Nat} {r : Option Nat} (hd : decode (xm_c M) pc = .ok (.aload_n k, 1)) (hi : (k : Nat) = i) (j : Nat) (hj : lv[j]? = some (i, va_rf r)) (kk : xX M (pc + 1) lv (va_rf r :: st) σ Q) : xX M pc lv st σ Q := by
  cases r with
  | none => exact x_aload_nN hd hi j hj kk
  | some x => exact x_aload_n hd hi j hj kk
theorem x_aload_nS {M : xM} {pc : Nat} {lv : List (Nat × Value)} {st : List Value} {σ : xS} {Q : Option Value → xS → Prop} {k : Fin 4} {i : Nat} {r : Option Nat} {x : Nat} (hd : decode (xm_c M) pc = .ok (.aload_n k, 1)) (hi : (k : Nat) = i) (j : Nat) (hj : lv[j]? = some (i, va_rf r)) (hr : r = some x) (kk : xX M (pc + 1) lv (.ref x :: st) σ Q) : xX M pc lv st σ Q := by
  subst hr
  exact x_aload_n hd hi j hj kk
theorem x_aloadQ {M : xM} {pc : Nat} {lv : List (Nat × Value)} {st : List Value} {σ : xS} {Q : Option Value → xS → Prop} {i : Nat} {r : Option Nat} (hd : decode (xm_c M) pc = .ok (.aload i, 2))  (j : Nat) (hj : lv[j]? = some (i, va_rf r)) (kk : xX M (pc + 2) lv (va_rf r :: st) σ Q) : xX M pc lv st σ Q := by
  cases r with
  | none => exact x_aloadN hd  j hj kk
  | some x => exact x_aload hd  j hj kk
theorem x_aloadS {M : xM} {pc : Nat} {lv : List (Nat × Value)} {st : List Value} {σ : xS} {Q : Option Value → xS → Prop} {i : Nat} {r : Option Nat} {x : Nat} (hd : decode (xm_c M) pc = .ok (.aload i, 2))  (j : Nat) (hj : lv[j]? = some (i, va_rf r)) (hr : r = some x) (kk : xX M (pc + 2) lv (.ref x :: st) σ Q) : xX M pc lv st σ Q := by
  subst hr
  exact x_aload hd  j hj kk
theorem x_istore_n {M : xM} {pc : Nat} {lv : List (Nat × Value)} {st : List Value} {σ : xS} {Q : Option Value → xS → Prop} {k : Fin 4} {i : Nat} {x : Int32} (lv2 : List (Nat × Value)) (hd : decode (xm_c M) pc = .ok (.istore_n k, 1)) (hi : (k : Nat) = i) (hn : i < xm_n M) (hl2 : (i, Value.int x) :: lv.filter (fun q => !(q.1 == i) && !(q.1 + 1 == i && q.2.category == 2)) = lv2) (kk : xX M (pc + 1) lv2 st σ Q) : xX M pc lv (Value.int x :: st) σ Q := fun l B G A p e R s m args below meth c C H locs cells slots L ls hl => lv_istore_n C.1 C.2.1 hd hi hl hn hl2 (fun ls hl => kk l B G A p e R s m args below meth c C H locs cells slots L ls hl)
theorem x_istore {M : xM} {pc : Nat} {lv : List (Nat × Value)} {st : List Value} {σ : xS} {Q : Option Value → xS → Prop} {i : Nat} {x : Int32} (lv2 : List (Nat × Value)) (hd : decode (xm_c M) pc = .ok (.istore i, 2))  (hn : i < xm_n M) (hl2 : (i, Value.int x) :: lv.filter (fun q => !(q.1 == i) && !(q.1 + 1 == i && q.2.category == 2)) = lv2) (kk : xX M (pc + 2) lv2 st σ Q) : xX M pc lv (Value.int x :: st) σ Q := fun l B G A p e R s m args below meth c C H locs cells slots L ls hl => lv_istore C.1 C.2.1 hd  hl hn hl2 (fun ls hl => kk l B G A p e R s m args below meth c C H locs cells slots L ls hl)
theorem x_lstore_n {M : xM} {pc : Nat} {lv : List (Nat × Value)} {st : List Value} {σ : xS} {Q : Option Value → xS → Prop} {k : Fin 4} {i : Nat} {x : Int64} (lv2 : List (Nat × Value)) (hd : decode (xm_c M) pc = .ok (.lstore_n k, 1)) (hi : (k : Nat) = i) (hn : i + 1 < xm_n M) (hl2 : (i, Value.long x) :: lv.filter (fun q => !(q.1 == i) && (!(q.1 == i + 1) && !(q.1 + 1 == i && q.2.category == 2))) = lv2) (kk : xX M (pc + 1) lv2 st σ Q) : xX M pc lv (Value.long x :: st) σ Q := fun l B G A p e R s m args below meth c C H locs cells slots L ls hl => lv_lstore_n C.1 C.2.1 hd hi hl hn hl2 (fun ls hl => kk l B G A p e R s m args below meth c C H locs cells slots L ls hl)
theorem x_astore_n {M : xM} {pc : Nat} {lv : List (Nat × Value)} {st : List Value} {σ : xS} {Q : Option Value → xS → Prop} {k : Fin 4} {i : Nat} {x : Nat} (lv2 : List (Nat × Value)) (hd : decode (xm_c M) pc = .ok (.astore_n k, 1)) (hi : (k : Nat) = i) (hn : i < xm_n M) (hl2 : (i, Value.ref x) :: lv.filter (fun q => !(q.1 == i) && !(q.1 + 1 == i && q.2.category == 2)) = lv2) (kk : xX M (pc + 1) lv2 st σ Q) : xX M pc lv (Value.ref x :: st) σ Q := fun l B G A p e R s m args below meth c C H locs cells slots L ls hl => lv_astore_n C.1 C.2.1 hd hi hl hn hl2 (fun ls hl => kk l B G A p e R s m args below meth c C H locs cells slots L ls hl)
theorem x_astore {M : xM} {pc : Nat} {lv : List (Nat × Value)} {st : List Value} {σ : xS} {Q : Option Value → xS → Prop} {i : Nat} {x : Nat} (lv2 : List (Nat × Value)) (hd : decode (xm_c M) pc = .ok (.astore i, 2))  (hn : i < xm_n M) (hl2 : (i, Value.ref x) :: lv.filter (fun q => !(q.1 == i) && !(q.1 + 1 == i && q.2.category == 2)) = lv2) (kk : xX M (pc + 2) lv2 st σ Q) : xX M pc lv (Value.ref x :: st) σ Q := fun l B G A p e R s m args below meth c C H locs cells slots L ls hl => lv_astore C.1 C.2.1 hd  hl hn hl2 (fun ls hl => kk l B G A p e R s m args below meth c C H locs cells slots L ls hl)
theorem x_astore_nN {M : xM} {pc : Nat} {lv : List (Nat × Value)} {st : List Value} {σ : xS} {Q : Option Value → xS → Prop} {k : Fin 4} {i : Nat}  (lv2 : List (Nat × Value)) (hd : decode (xm_c M) pc = .ok (.astore_n k, 1)) (hi : (k : Nat) = i) (hn : i < xm_n M) (hl2 : (i, Value.null) :: lv.filter (fun q => !(q.1 == i) && !(q.1 + 1 == i && q.2.category == 2)) = lv2) (kk : xX M (pc + 1) lv2 st σ Q) : xX M pc lv (Value.null :: st) σ Q := fun l B G A p e R s m args below meth c C H locs cells slots L ls hl => lv_astore_nN C.1 C.2.1 hd hi hl hn hl2 (fun ls hl => kk l B G A p e R s m args below meth c C H locs cells slots L ls hl)
theorem x_astoreN {M : xM} {pc : Nat} {lv : List (Nat × Value)} {st : List Value} {σ : xS} {Q : Option Value → xS → Prop} {i : Nat}  (lv2 : List (Nat × Value)) (hd : decode (xm_c M) pc = .ok (.astore i, 2))  (hn : i < xm_n M) (hl2 : (i, Value.null) :: lv.filter (fun q => !(q.1 == i) && !(q.1 + 1 == i && q.2.category == 2)) = lv2) (kk : xX M (pc + 2) lv2 st σ Q) : xX M pc lv (Value.null :: st) σ Q := fun l B G A p e R s m args below meth c C H locs cells slots L ls hl => lv_astoreN C.1 C.2.1 hd  hl hn hl2 (fun ls hl => kk l B G A p e R s m args below meth c C H locs cells slots L ls hl)
theorem x_astore_nQ {M : xM} {pc : Nat} {lv : List (Nat × Value)} {st : List Value} {σ : xS} {Q : Option Value → xS → Prop} {k : Fin 4} {i : Nat} {r : Option Nat} (lv2 : List (Nat × Value)) (hd : decode (xm_c M) pc = .ok (.astore_n k, 1)) (hi : (k : Nat) = i) (hn : i < xm_n M) (hl2 : (i, va_rf r) :: lv.filter (fun q => !(q.1 == i) && !(q.1 + 1 == i && q.2.category == 2)) = lv2) (kk : xX M (pc + 1) lv2 st σ Q) : xX M pc lv (va_rf r :: st) σ Q := by
  cases r with
  | none => exact x_astore_nN lv2 hd hi hn hl2 kk
  | some x => exact x_astore_n lv2 hd hi hn hl2 kk
theorem x_astoreQ {M : xM} {pc : Nat} {lv : List (Nat × Value)} {st : List Value} {σ : xS} {Q : Option Value → xS → Prop} {i : Nat} {r : Option Nat} (lv2 : List (Nat × Value)) (hd : decode (xm_c M) pc = .ok (.astore i, 2))  (hn : i < xm_n M) (hl2 : (i, va_rf r) :: lv.filter (fun q => !(q.1 == i) && !(q.1 + 1 == i && q.2.category == 2)) = lv2) (kk : xX M (pc + 2) lv2 st σ Q) : xX M pc lv (va_rf r :: st) σ Q := by
  cases r with
  | none => exact x_astoreN lv2 hd  hn hl2 kk
  | some x => exact x_astore lv2 hd  hn hl2 kk
theorem x_iinc {M : xM} {pc : Nat} {lv : List (Nat × Value)} {st : List Value} {σ : xS} {Q : Option Value → xS → Prop} {i : Nat} {n : Int} {x v : Int32} (lv2 : List (Nat × Value)) (hd : decode (xm_c M) pc = .ok (.iinc i n, 3)) (j : Nat) (hj : lv[j]? = some (i, .int x)) (hv : x + Int32.ofInt n = v) (hn : i < xm_n M) (hl2 : (i, Value.int v) :: lv.filter (fun q => !(q.1 == i) && !(q.1 + 1 == i && q.2.category == 2)) = lv2) (kk : xX M (pc + 3) lv2 st σ Q) : xX M pc lv st σ Q := fun l B G A p e R s m args below meth c C H locs cells slots L ls hl => lv_iinc C.1 C.2.1 hd hl hj hv hn hl2 (fun ls hl => kk l B G A p e R s m args below meth c C H locs cells slots L ls hl)
theorem x_if_eq {M : xM} {pc : Nat} {lv : List (Nat × Value)} {st : List Value} {σ : xS} {Q : Option Value → xS → Prop} {x : Int32} {off : Int} (tgt : Nat) (hd : decode (xm_c M) pc = .ok (.ifCond .eq off, 3)) (ht : (pc : Int) + off = (tgt : Int)) (kt : x = 0 → xX M tgt lv st σ Q) (kf : ¬ x = 0 → xX M (pc + 3) lv st σ Q) : xX M pc lv (.int x :: st) σ Q := fun l B G A p e R s m args below meth c C H locs cells slots L ls hl => lv_if_eq C.1 C.2.1 hd ht (fun h => kt h l B G A p e R s m args below meth c C H locs cells slots L ls hl) (fun h => kf h l B G A p e R s m args below meth c C H locs cells slots L ls hl)
theorem x_icmp_eq {M : xM} {pc : Nat} {lv : List (Nat × Value)} {st : List Value} {σ : xS} {Q : Option Value → xS → Prop} {x y : Int32} {off : Int} (tgt : Nat) (hd : decode (xm_c M) pc = .ok (.if_icmp .eq off, 3)) (ht : (pc : Int) + off = (tgt : Int)) (kt : x = y → xX M tgt lv st σ Q) (kf : ¬ x = y → xX M (pc + 3) lv st σ Q) : xX M pc lv (.int y :: .int x :: st) σ Q := fun l B G A p e R s m args below meth c C H locs cells slots L ls hl => lv_icmp_eq C.1 C.2.1 hd ht (fun h => kt h l B G A p e R s m args below meth c C H locs cells slots L ls hl) (fun h => kf h l B G A p e R s m args below meth c C H locs cells slots L ls hl)
theorem x_if_ne {M : xM} {pc : Nat} {lv : List (Nat × Value)} {st : List Value} {σ : xS} {Q : Option Value → xS → Prop} {x : Int32} {off : Int} (tgt : Nat) (hd : decode (xm_c M) pc = .ok (.ifCond .ne off, 3)) (ht : (pc : Int) + off = (tgt : Int)) (kt : ¬ x = 0 → xX M tgt lv st σ Q) (kf : x = 0 → xX M (pc + 3) lv st σ Q) : xX M pc lv (.int x :: st) σ Q := fun l B G A p e R s m args below meth c C H locs cells slots L ls hl => lv_if_ne C.1 C.2.1 hd ht (fun h => kt h l B G A p e R s m args below meth c C H locs cells slots L ls hl) (fun h => kf h l B G A p e R s m args below meth c C H locs cells slots L ls hl)
theorem x_icmp_ne {M : xM} {pc : Nat} {lv : List (Nat × Value)} {st : List Value} {σ : xS} {Q : Option Value → xS → Prop} {x y : Int32} {off : Int} (tgt : Nat) (hd : decode (xm_c M) pc = .ok (.if_icmp .ne off, 3)) (ht : (pc : Int) + off = (tgt : Int)) (kt : ¬ x = y → xX M tgt lv st σ Q) (kf : x = y → xX M (pc + 3) lv st σ Q) : xX M pc lv (.int y :: .int x :: st) σ Q := fun l B G A p e R s m args below meth c C H locs cells slots L ls hl => lv_icmp_ne C.1 C.2.1 hd ht (fun h => kt h l B G A p e R s m args below meth c C H locs cells slots L ls hl) (fun h => kf h l B G A p e R s m args below meth c C H locs cells slots L ls hl)
theorem x_if_lt {M : xM} {pc : Nat} {lv : List (Nat × Value)} {st : List Value} {σ : xS} {Q : Option Value → xS → Prop} {x : Int32} {off : Int} (tgt : Nat) (hd : decode (xm_c M) pc = .ok (.ifCond .lt off, 3)) (ht : (pc : Int) + off = (tgt : Int)) (kt : x < 0 → xX M tgt lv st σ Q) (kf : ¬ x < 0 → xX M (pc + 3) lv st σ Q) : xX M pc lv (.int x :: st) σ Q := fun l B G A p e R s m args below meth c C H locs cells slots L ls hl => lv_if_lt C.1 C.2.1 hd ht (fun h => kt h l B G A p e R s m args below meth c C H locs cells slots L ls hl) (fun h => kf h l B G A p e R s m args below meth c C H locs cells slots L ls hl)
theorem x_icmp_lt {M : xM} {pc : Nat} {lv : List (Nat × Value)} {st : List Value} {σ : xS} {Q : Option Value → xS → Prop} {x y : Int32} {off : Int} (tgt : Nat) (hd : decode (xm_c M) pc = .ok (.if_icmp .lt off, 3)) (ht : (pc : Int) + off = (tgt : Int)) (kt : x < y → xX M tgt lv st σ Q) (kf : ¬ x < y → xX M (pc + 3) lv st σ Q) : xX M pc lv (.int y :: .int x :: st) σ Q := fun l B G A p e R s m args below meth c C H locs cells slots L ls hl => lv_icmp_lt C.1 C.2.1 hd ht (fun h => kt h l B G A p e R s m args below meth c C H locs cells slots L ls hl) (fun h => kf h l B G A p e R s m args below meth c C H locs cells slots L ls hl)
theorem x_if_ge {M : xM} {pc : Nat} {lv : List (Nat × Value)} {st : List Value} {σ : xS} {Q : Option Value → xS → Prop} {x : Int32} {off : Int} (tgt : Nat) (hd : decode (xm_c M) pc = .ok (.ifCond .ge off, 3)) (ht : (pc : Int) + off = (tgt : Int)) (kt : 0 ≤ x → xX M tgt lv st σ Q) (kf : ¬ 0 ≤ x → xX M (pc + 3) lv st σ Q) : xX M pc lv (.int x :: st) σ Q := fun l B G A p e R s m args below meth c C H locs cells slots L ls hl => lv_if_ge C.1 C.2.1 hd ht (fun h => kt h l B G A p e R s m args below meth c C H locs cells slots L ls hl) (fun h => kf h l B G A p e R s m args below meth c C H locs cells slots L ls hl)
theorem x_icmp_ge {M : xM} {pc : Nat} {lv : List (Nat × Value)} {st : List Value} {σ : xS} {Q : Option Value → xS → Prop} {x y : Int32} {off : Int} (tgt : Nat) (hd : decode (xm_c M) pc = .ok (.if_icmp .ge off, 3)) (ht : (pc : Int) + off = (tgt : Int)) (kt : y ≤ x → xX M tgt lv st σ Q) (kf : ¬ y ≤ x → xX M (pc + 3) lv st σ Q) : xX M pc lv (.int y :: .int x :: st) σ Q := fun l B G A p e R s m args below meth c C H locs cells slots L ls hl => lv_icmp_ge C.1 C.2.1 hd ht (fun h => kt h l B G A p e R s m args below meth c C H locs cells slots L ls hl) (fun h => kf h l B G A p e R s m args below meth c C H locs cells slots L ls hl)
theorem x_if_gt {M : xM} {pc : Nat} {lv : List (Nat × Value)} {st : List Value} {σ : xS} {Q : Option Value → xS → Prop} {x : Int32} {off : Int} (tgt : Nat) (hd : decode (xm_c M) pc = .ok (.ifCond .gt off, 3)) (ht : (pc : Int) + off = (tgt : Int)) (kt : 0 < x → xX M tgt lv st σ Q) (kf : ¬ 0 < x → xX M (pc + 3) lv st σ Q) : xX M pc lv (.int x :: st) σ Q := fun l B G A p e R s m args below meth c C H locs cells slots L ls hl => lv_if_gt C.1 C.2.1 hd ht (fun h => kt h l B G A p e R s m args below meth c C H locs cells slots L ls hl) (fun h => kf h l B G A p e R s m args below meth c C H locs cells slots L ls hl)
theorem x_icmp_gt {M : xM} {pc : Nat} {lv : List (Nat × Value)} {st : List Value} {σ : xS} {Q : Option Value → xS → Prop} {x y : Int32} {off : Int} (tgt : Nat) (hd : decode (xm_c M) pc = .ok (.if_icmp .gt off, 3)) (ht : (pc : Int) + off = (tgt : Int)) (kt : y < x → xX M tgt lv st σ Q) (kf : ¬ y < x → xX M (pc + 3) lv st σ Q) : xX M pc lv (.int y :: .int x :: st) σ Q := fun l B G A p e R s m args below meth c C H locs cells slots L ls hl => lv_icmp_gt C.1 C.2.1 hd ht (fun h => kt h l B G A p e R s m args below meth c C H locs cells slots L ls hl) (fun h => kf h l B G A p e R s m args below meth c C H locs cells slots L ls hl)
theorem x_if_le {M : xM} {pc : Nat} {lv : List (Nat × Value)} {st : List Value} {σ : xS} {Q : Option Value → xS → Prop} {x : Int32} {off : Int} (tgt : Nat) (hd : decode (xm_c M) pc = .ok (.ifCond .le off, 3)) (ht : (pc : Int) + off = (tgt : Int)) (kt : x ≤ 0 → xX M tgt lv st σ Q) (kf : ¬ x ≤ 0 → xX M (pc + 3) lv st σ Q) : xX M pc lv (.int x :: st) σ Q := fun l B G A p e R s m args below meth c C H locs cells slots L ls hl => lv_if_le C.1 C.2.1 hd ht (fun h => kt h l B G A p e R s m args below meth c C H locs cells slots L ls hl) (fun h => kf h l B G A p e R s m args below meth c C H locs cells slots L ls hl)
theorem x_icmp_le {M : xM} {pc : Nat} {lv : List (Nat × Value)} {st : List Value} {σ : xS} {Q : Option Value → xS → Prop} {x y : Int32} {off : Int} (tgt : Nat) (hd : decode (xm_c M) pc = .ok (.if_icmp .le off, 3)) (ht : (pc : Int) + off = (tgt : Int)) (kt : x ≤ y → xX M tgt lv st σ Q) (kf : ¬ x ≤ y → xX M (pc + 3) lv st σ Q) : xX M pc lv (.int y :: .int x :: st) σ Q := fun l B G A p e R s m args below meth c C H locs cells slots L ls hl => lv_icmp_le C.1 C.2.1 hd ht (fun h => kt h l B G A p e R s m args below meth c C H locs cells slots L ls hl) (fun h => kf h l B G A p e R s m args below meth c C H locs cells slots L ls hl)
theorem x_goto {M : xM} {pc : Nat} {lv : List (Nat × Value)} {st : List Value} {σ : xS} {Q : Option Value → xS → Prop} {off : Int} (tgt : Nat) (hd : decode (xm_c M) pc = .ok (.goto off, 3)) (ht : (pc : Int) + off = (tgt : Int)) (k : xX M tgt lv st σ Q) : xX M pc lv st σ Q := fun l B G A p e R s m args below meth c C H locs cells slots L ls hl => lv_goto C.1 C.2.1 hd ht (k l B G A p e R s m args below meth c C H locs cells slots L ls hl)
theorem x_ifnullN {M : xM} {pc : Nat} {lv : List (Nat × Value)} {st : List Value} {σ : xS} {Q : Option Value → xS → Prop} {off : Int} (tgt : Nat) (hd : decode (xm_c M) pc = .ok (.ifnull off, 3)) (ht : (pc : Int) + off = (tgt : Int)) (k : xX M tgt lv st σ Q) : xX M pc lv (.null :: st) σ Q := fun l B G A p e R s m args below meth c C H locs cells slots L ls hl => lv_ifnullN C.1 C.2.1 hd ht (k l B G A p e R s m args below meth c C H locs cells slots L ls hl)
theorem x_ifnullR {M : xM} {pc : Nat} {lv : List (Nat × Value)} {st : List Value} {σ : xS} {Q : Option Value → xS → Prop} {off : Int} {x : Nat} (hd : decode (xm_c M) pc = .ok (.ifnull off, 3)) (k : xX M (pc + 3) lv st σ Q) : xX M pc lv (.ref x :: st) σ Q := fun l B G A p e R s m args below meth c C H locs cells slots L ls hl => lv_ifnull C.1 C.2.1 hd (k l B G A p e R s m args below meth c C H locs cells slots L ls hl)
theorem x_ifnonnullN {M : xM} {pc : Nat} {lv : List (Nat × Value)} {st : List Value} {σ : xS} {Q : Option Value → xS → Prop} {off : Int} (hd : decode (xm_c M) pc = .ok (.ifnonnull off, 3)) (k : xX M (pc + 3) lv st σ Q) : xX M pc lv (.null :: st) σ Q := fun l B G A p e R s m args below meth c C H locs cells slots L ls hl => lv_ifnonnullN C.1 C.2.1 hd (k l B G A p e R s m args below meth c C H locs cells slots L ls hl)
theorem x_ifnonnullR {M : xM} {pc : Nat} {lv : List (Nat × Value)} {st : List Value} {σ : xS} {Q : Option Value → xS → Prop} {off : Int} {x : Nat} (tgt : Nat) (hd : decode (xm_c M) pc = .ok (.ifnonnull off, 3)) (ht : (pc : Int) + off = (tgt : Int)) (k : xX M tgt lv st σ Q) : xX M pc lv (.ref x :: st) σ Q := fun l B G A p e R s m args below meth c C H locs cells slots L ls hl => lv_ifnonnull C.1 C.2.1 hd ht (k l B G A p e R s m args below meth c C H locs cells slots L ls hl)
theorem x_ifnull {M : xM} {pc : Nat} {lv : List (Nat × Value)} {st : List Value} {σ : xS} {Q : Option Value → xS → Prop} {off : Int} {r : Option Nat} (tgt : Nat) (hd : decode (xm_c M) pc = .ok (.ifnull off, 3)) (ht : (pc : Int) + off = (tgt : Int)) (kn : r = none → xX M tgt lv st σ Q) (ks : ∀ a, r = some a → xX M (pc + 3) lv st σ Q) : xX M pc lv (va_rf r :: st) σ Q := by
  cases r with
  | none => exact x_ifnullN tgt hd ht (kn rfl)
  | some a => exact x_ifnullR hd (ks a rfl)
theorem x_ifnonnull {M : xM} {pc : Nat} {lv : List (Nat × Value)} {st : List Value} {σ : xS} {Q : Option Value → xS → Prop} {off : Int} {r : Option Nat} (tgt : Nat) (hd : decode (xm_c M) pc = .ok (.ifnonnull off, 3)) (ht : (pc : Int) + off = (tgt : Int)) (kn : r = none → xX M (pc + 3) lv st σ Q) (ks : ∀ a, r = some a → xX M tgt lv st σ Q) : xX M pc lv (va_rf r :: st) σ Q := by
  cases r with
  | none => exact x_ifnonnullN hd (kn rfl)
  | some a => exact x_ifnonnullR tgt hd ht (ks a rfl)
theorem x_acmp_ne {M : xM} {pc : Nat} {lv : List (Nat × Value)} {st : List Value} {σ : xS} {Q : Option Value → xS → Prop} {off : Int} {rx ry : Option Nat} (tgt : Nat) (hd : decode (xm_c M) pc = .ok (.if_acmp .ne off, 3)) (ht : (pc : Int) + off = (tgt : Int)) (kt : ¬ rx = ry → xX M tgt lv st σ Q) (kf : rx = ry → xX M (pc + 3) lv st σ Q) : xX M pc lv (va_rf ry :: va_rf rx :: st) σ Q := fun l B G A p e R s m args below meth c C H locs cells slots L ls hl => lv_acmp_ne C.1 C.2.1 hd ht (fun h => kt h l B G A p e R s m args below meth c C H locs cells slots L ls hl) (fun h => kf h l B G A p e R s m args below meth c C H locs cells slots L ls hl)
theorem x_lookup {M : xM} {pc : Nat} {lv : List (Nat × Value)} {st : List Value} {σ : xS} {Q : Option Value → xS → Prop} {dflt : Int} {ps : Array (Int × Int)} {len : Nat} {x : Int32} {off : Int} (tgt : Nat) (hd : decode (xm_c M) pc = .ok (.lookupswitch dflt ps, len)) (hp : (ps.toList.zip (ps.toList.drop 1)).all (fun (a, next) => a.1 < next.1) = true) (ho : Op.lookupswitch.offset ps.toList dflt x.toInt = off) (ht : (pc : Int) + off = (tgt : Int)) (k : xX M tgt lv st σ Q) : xX M pc lv (.int x :: st) σ Q := fun l B G A p e R s m args below meth c C H locs cells slots L ls hl => lv_lookup C.1 C.2.1 hd hp ho ht (k l B G A p e R s m args below meth c C H locs cells slots L ls hl)
theorem x_tableIn {M : xM} {pc : Nat} {lv : List (Nat × Value)} {st : List Value} {σ : xS} {Q : Option Value → xS → Prop} {dflt lo hi : Int} {offs : Array Int} {len : Nat} {x : Int32} {off : Int} (tgt : Nat) (hd : decode (xm_c M) pc = .ok (.tableswitch dflt lo hi offs, len)) (h1 : ¬ x.toInt < lo) (h2 : ¬ hi < x.toInt) (ho : offs[(x.toInt - lo).toNat]? = some off) (ht : (pc : Int) + off = (tgt : Int)) (k : xX M tgt lv st σ Q) : xX M pc lv (.int x :: st) σ Q := fun l B G A p e R s m args below meth c C H locs cells slots L ls hl => lv_tableIn C.1 C.2.1 hd h1 h2 ho ht (k l B G A p e R s m args below meth c C H locs cells slots L ls hl)
theorem x_tableOut {M : xM} {pc : Nat} {lv : List (Nat × Value)} {st : List Value} {σ : xS} {Q : Option Value → xS → Prop} {dflt lo hi : Int} {offs : Array Int} {len : Nat} {x : Int32} (tgt : Nat) (hd : decode (xm_c M) pc = .ok (.tableswitch dflt lo hi offs, len)) (h : x.toInt < lo ∨ hi < x.toInt) (ht : (pc : Int) + dflt = (tgt : Int)) (k : xX M tgt lv st σ Q) : xX M pc lv (.int x :: st) σ Q := fun l B G A p e R s m args below meth c C H locs cells slots L ls hl => lv_tableOut C.1 C.2.1 hd h ht (k l B G A p e R s m args below meth c C H locs cells slots L ls hl)
theorem x_ldc2 {M : xM} {pc : Nat} {lv : List (Nat × Value)} {st : List Value} {σ : xS} {Q : Option Value → xS → Prop} {i : Nat} {v : Int64} (hd : decode (xm_c M) pc = .ok (.ldc2_w i, 3)) (hw : Cond.constantLong (xm_y M).cls i v ∈ xTb) (k : xX M (pc + 3) lv (.long v :: st) σ Q) : xX M pc lv st σ Q := fun l B G A p e R s m args below meth c C H locs cells slots L ls hl => lv_ldc2 C.1 C.2.1 C.2.2.2.2.1 (C.2.2.2.2.2.1 _ (List.mem_cons_of_mem _ hw)) hd (k l B G A p e R s m args below meth c C H locs cells slots L ls hl)
theorem x_top {M : xM} {pc : Nat} {lv : List (Nat × Value)} {st : List Value} {σ : xS} {Q : Option Value → xS → Prop} {r : Option Nat} {a : Nat} (h : r = some a) (k : xX M pc lv (.ref a :: st) σ Q) : xX M pc lv (va_rf r :: st) σ Q := by rw [h]; exact k
end
section
theorem xf_cl {ci : Nat} (h : ci < 8) : vwCl[ci]? = some (xf_C ci, xf_T ci, xf_N ci) := by
  match ci, h with
  | 0, _ => rfl
  | 1, _ => rfl
  | 2, _ => rfl
  | 3, _ => rfl
  | 4, _ => rfl
  | 5, _ => rfl
  | 6, _ => rfl
  | 7, _ => rfl
  | n + 8, h => exact absurd h (by omega)
theorem xf_in0 : ∀ w ∈ u_ws RX0 TX0 (xf_N 0), w ∈ xTb := by decide +kernel
theorem xf_in1 : ∀ w ∈ u_ws RX1 TX1 (xf_N 1), w ∈ xTb := by decide +kernel
theorem xf_in2 : ∀ w ∈ u_ws RX2 TX2 (xf_N 2), w ∈ xTb := by decide +kernel
theorem xf_in3 : ∀ w ∈ u_ws RX3 TX3 (xf_N 3), w ∈ xTb := by decide +kernel
theorem xf_in4 : ∀ w ∈ u_ws RX4 TX4 (xf_N 4), w ∈ xTb := by decide +kernel
theorem xf_in5 : ∀ w ∈ u_ws RX5 TX5 (xf_N 5), w ∈ xTb := by decide +kernel
theorem xf_in6 : ∀ w ∈ u_ws RX6 TX6 (xf_N 6), w ∈ xTb := by decide +kernel
theorem xf_in7 : ∀ w ∈ u_ws RX7 TX7 (xf_N 7), w ∈ xTb := by decide +kernel
theorem xf_in {ci : Nat} (h : ci < 8) : ∀ w ∈ u_ws (xf_C ci) (xf_T ci) (xf_N ci), w ∈ xTb := by
  match ci, h with
  | 0, _ => exact xf_in0
  | 1, _ => exact xf_in1
  | 2, _ => exact xf_in2
  | 3, _ => exact xf_in3
  | 4, _ => exact xf_in4
  | 5, _ => exact xf_in5
  | 6, _ => exact xf_in6
  | 7, _ => exact xf_in7
  | n + 8, h => exact absurd h (by omega)
theorem xf_tyok {ci : Nat} (h : ci < 8) : ∀ k, k < xf_N ci → parseFieldDescriptor (xf_T ci k).2.2.1 = some (xf_ty ci k) := by
  match ci, h with
  | 0, _ => exact tyX0_ok
  | 1, _ => exact tyX1_ok
  | 2, _ => exact tyX2_ok
  | 3, _ => exact tyX3_ok
  | 4, _ => exact tyX4_ok
  | 5, _ => exact tyX5_ok
  | 6, _ => exact tyX6_ok
  | 7, _ => exact tyX7_ok
  | n + 8, h => exact absurd h (by omega)
theorem xf_nm {ci : Nat} (h : ci < 8) : ∀ a, a < xf_N ci → ∀ b, b < xf_N ci → a ≠ b → (xf_T ci a).2.1 ≠ (xf_T ci b).2.1 := by
  match ci, h with
  | 0, _ => exact nmX0
  | 1, _ => exact nmX1
  | 2, _ => exact nmX2
  | 3, _ => exact nmX3
  | 4, _ => exact nmX4
  | 5, _ => exact nmX5
  | 6, _ => exact nmX6
  | 7, _ => exact nmX7
  | n + 8, h => exact absurd h (by omega)
theorem xf_dc : ∀ ci, ci < 8 → ∀ k, k < xf_N ci → (xf_T ci k).1 = xf_C ci := by decide +kernel
theorem xf_N64 {ci : Nat} : xf_N ci < 64 := by
  unfold xf_N
  split <;> omega
theorem xr_upd {G : xG} {σ σ2 : xS} {H H2 : Heap} {a : Nat} (h : xr G σ H) (hz : H2.size = H.size) (ho : ∀ q, q ≠ a → H2[q]? = H[q]?) (hk : xh_k σ2 = xh_k σ) (hzz : xh_z σ2 = xh_z σ)
    (hf : ∀ ci j b, b ≠ a → ci < 8 → j < xf_N ci → xf_v σ2 ci j b = xf_v σ ci j b) (ha1 : ∀ b j, b ≠ a → xh_a σ2 b j = xh_a σ b j) (hq : ∀ b j, b ≠ a → xh_q σ2 b j = xh_q σ b j)
    (n1 : ∀ ci, xh_k σ a = ci + 1 → ci < 8 → t_OB a (G.1.1 ci) (xf_N ci) (G.1.2 ci) H2 (fun j => xf_v σ2 ci j a))
    (n2 : ∀ t, xh_k σ a = t + 9 → t < 2 → H2[a]? = some (arrV (G.2 t) (xh_z σ a) (fun j => .int (xh_a σ2 a j))))
    (n3 : ∀ t, xh_k σ a = t + 11 → t < 4 → H2[a]? = some (arrV (G.2 (t + 2)) (xh_z σ a) (fun j => va_rf (xh_q σ2 a j)))) : xr G σ2 H2 := by
  obtain ⟨h1, h2, h3, h4, h5⟩ := h
  refine ⟨fun b ci hb hc => ?_, fun b t hb ht => ?_, fun b t hb ht => ?_, fun b => by rw [hk]; exact h4 b, fun b hb => by rw [hz]; exact h5 b (by rw [← hk]; exact hb)⟩
  · rw [hk] at hb
    by_cases e : b = a
    · subst e; exact n1 ci hb hc
    · exact ((h1 b ci hb hc).kept (ho b e)).to (fun k hk' => (hf ci k b e hc hk').symm)
  · rw [hk] at hb
    by_cases e : b = a
    · subst e; rw [hzz]; exact n2 t hb ht
    · rw [ho b e, h2 b t hb ht, hzz]
      have : (fun j => Value.int (xh_a σ2 b j)) = (fun j => Value.int (xh_a σ b j)) := funext fun j => by rw [ha1 b j e]
      rw [this]
  · rw [hk] at hb
    by_cases e : b = a
    · subst e; rw [hzz]; exact n3 t hb ht
    · rw [ho b e, h3 b t hb ht, hzz]
      have : (fun j => va_rf (xh_q σ2 b j)) = (fun j => va_rf (xh_q σ b j)) := funext fun j => by rw [hq b j e]
      rw [this]
theorem x_get {M : xM} {pc : Nat} {lv : List (Nat × Value)} {st : List Value} {σ : xS} {Q : Option Value → xS → Prop} {idx ci k a : Nat} {v : Value} (hd : decode (xm_c M) pc = .ok (.getfield idx, 3)) (hw : Cond.fieldLink (xm_y M).cls idx (xf_C ci) (xf_T ci k).2.1 (xf_T ci k).2.2.1 ∈ xTb) (hci : ci < 8) (hk : k < xf_N ci) (ha : xh_k σ a = ci + 1) (hv : xf_v σ ci k a = v) (kk : xX M (pc + 3) lv (v :: st) σ Q) : xX M pc lv (.ref a :: st) σ Q := by
  intro l B G A p e R s m args below meth c C H locs cells slots L ls hl
  have C0 := C
  obtain ⟨hx, hb, hr, hml, hown, hts, ⟨hK, hNw⟩, hlk, hnm, hA, hR, hB⟩ := C
  have L0 := L
  obtain ⟨⟨hxr, hn, hm, hB1, hnm2⟩, hS, hdom, hc1, hs1⟩ := L
  obtain ⟨cell, q1, q2, q3, q4⟩ := hxr.1 a ci ha hci
  obtain ⟨hSl, hfc, kC, hkC, hkind⟩ := hK.1 ci _ (xf_cl hci)
  obtain ⟨cf, kf, fi, f, hi, hsl⟩ := hSl k hk
  have hin : ∀ w ∈ u_ws (xf_C ci) (xf_T ci) (xf_N ci), w ∈ xW M := fun w h => List.mem_cons_of_mem _ (xf_in hci w h)
  have hi2 := hi
  rw [show ((xf_C ci, xf_T ci, xf_N ci).2.1 k).1 = xf_C ci from xf_dc ci hci k hk] at hi2
  refine W.getf hx hb hown (hts _ (List.mem_cons_of_mem _ hw)) hi2 (u_facts hfc hkC (u_lays hts hin hk) hi).1 q1 (by rw [q3]; exact fun h => by cases h) (v := v) ?_ rfl rfl hd (kk l B G A p e R s m args below meth c C0 H locs cells slots L0 ls hl)
  rw [hsl, q4 k hk]
  exact congrArg some hv
theorem x_put0 {M : xM} {pc : Nat} {lv : List (Nat × Value)} {st : List Value} {σ : xS} {Q : Option Value → xS → Prop} {σ2 : xS} {idx ci k a : Nat} {v : Value} (hd : decode (xm_c M) pc = .ok (.putfield idx, 3)) (hw : Cond.fieldLink (xm_y M).cls idx (xf_C ci) (xf_T ci k).2.1 (xf_T ci k).2.2.1 ∈ xTb) (hci : ci < 8) (hk : k < xf_N ci) (ha : xh_k σ a = ci + 1)
    (hfin : (xf_T ci k).2.2.2 = false ∨ ((xf_T ci k).2.2.2 = true ∧ (xm_y M).name = "<init>" ∧ xf_C ci = (xm_y M).cls)) (hn1 : narrow (xf_ty ci k) v = v) (hfit : fits (xf_ty ci k) v = true) (e1 : xh_k σ2 = xh_k σ) (e2 : xh_n σ2 = xh_n σ) (e3 : xh_m σ2 = xh_m σ) (e4 : xh_a σ2 = xh_a σ) (e5 : xh_q σ2 = xh_q σ) (e6 : xh_z σ2 = xh_z σ) (e7 : ∀ cj j b, cj < 8 → j < xf_N cj → xf_v σ2 cj j b = if cj = ci ∧ j = k ∧ b = a then v else xf_v σ cj j b) (kk : xX M (pc + 3) lv st σ2 Q) : xX M pc lv (v :: .ref a :: st) σ Q := by
  intro l B G A p e R s m args below meth c C H locs cells slots L ls hl
  have C0 := C
  obtain ⟨hx, hb, hr, hml, hown, hts, ⟨hK, hNw⟩, hlk, hnm, hA, hR, hB⟩ := C
  have L0 := L
  obtain ⟨⟨hxr, hn, hm, hB1, hnm2⟩, hS, hdom, hc1, hs1⟩ := L
  obtain ⟨cell, q1, q2, q3, q4⟩ := hxr.1 a ci ha hci
  have hin : ∀ w ∈ u_ws (xf_C ci) (xf_T ci) (xf_N ci), w ∈ xW M := fun w h => List.mem_cons_of_mem _ (xf_in hci w h)
  have hap := va_apart (own := (xm_y M).cls) hts hin (xf_ty ci) (xf_tyok hci) (xf_nm hci) hK (xf_cl hci)
  obtain ⟨hSl, hfc, kC, hkC, hkind⟩ := hK.1 ci _ (xf_cl hci)
  obtain ⟨cf, kf, fi, f, hi, hsl⟩ := hSl k hk
  have hi2 := hi
  have hdc : ((xf_C ci, xf_T ci, xf_N ci).2.1 k).1 = xf_C ci := xf_dc ci hci k hk
  rw [hdc] at hi2
  have hst := (u_facts hfc hkC (u_lays hts hin hk) hi).1
  have hlay := hts _ (hin _ (u_in_lay hk))
  have hlink := hts _ (List.mem_cons_of_mem _ hw)
  unfold u_lay at hlay
  rcases hfin with hfin | ⟨hfin, hini, hdecl⟩
  · rw [if_neg (by rw [hfin]; decide)] at hlay
    have h6 := u_store hfc hkC hkind hlay hi (xf_tyok hci k hk) hn1 hfit
    refine W.putK hx hb (f := f) ⟨hown, hlink, ⟨_, _, _, hi2⟩, hst⟩ (by rw [q2]; exact h6) q1 q3 (by rw [hsl]; exact k2_hasslot (q4 k hk)) rfl rfl hd fun H2 e1c e2c e3c => ?_
    rw [hsl] at e1c ⊢
    refine kk l B G A p e R s m args below meth c C0 H2 _ cells slots ⟨⟨xr_upd hxr e2c e3c e1 e6 (fun cj j b hb' hc hj => ?_) (fun b j _ => by rw [e4]) (fun b j _ => by rw [e5]) (fun cj hcj hc8 => ?_) (fun t ht ht2 => ?_) (fun t ht ht2 => ?_), by rw [e2c, e2]; exact hn, by rw [e3]; exact hm, by rw [e2]; exact hB1, by rw [e2, e3]; exact hnm2⟩, hS.put e2c e3c (hdom a (by rw [ha]; omega)), fun b hb' => hdom b (by rw [← e1]; exact hb'), by rw [e2c]; exact hc1, by rw [e2c]; exact hs1⟩ ls hl
    · rw [e7 cj j b hc hj, if_neg (fun h => hb' h.2.2)]
    · have : cj = ci := by rw [ha] at hcj; omega
      subst this
      refine t_OB.to (V := updV (fun j => xf_v σ cj j a) k v) ⟨_, e1c, q2, q3, t_set q4 hap hk v⟩ (fun j hj => ?_)
      rw [e7 cj j a hci hj]
      unfold updV
      by_cases hjk : j = k
      · simp [hjk]
      · simp [hjk]
    · rw [ha] at ht; omega
    · rw [ha] at ht; omega
  · rw [if_pos hfin] at hlay
    have hcf : m.cls = cf := by
      obtain ⟨_, _, c2, _, _, _, -, -, hf2, -, -, -, hown2, -⟩ := Cond.laysFinal_spec hlay
      have e1 : c2 = cf := by have := hi.symm.trans hf2; simp at this; exact this.1.symm
      rw [show (xf_T ci k).1 = (xm_y M).cls from (xf_dc ci hci k hk).trans hdecl] at hown2
      rw [← e1]; exact Option.some.inj (hown.symm.trans hown2)
    have h6 := u_fits hfc hkC hkind (Or.inr hlay) hi (xf_tyok hci k hk) hn1 hfit
    refine W.putFinK hx hb hown hlink hi2 hst hcf (hnm.trans hini) (by rw [q2]; exact h6) q1 q3 (by rw [hsl]; exact k2_hasslot (q4 k hk)) rfl rfl hd fun H2 e1c e2c e3c => ?_
    rw [hsl] at e1c ⊢
    refine kk l B G A p e R s m args below meth c C0 H2 _ cells slots ⟨⟨xr_upd hxr e2c e3c e1 e6 (fun cj j b hb' hc hj => ?_) (fun b j _ => by rw [e4]) (fun b j _ => by rw [e5]) (fun cj hcj hc8 => ?_) (fun t ht ht2 => ?_) (fun t ht ht2 => ?_), by rw [e2c, e2]; exact hn, by rw [e3]; exact hm, by rw [e2]; exact hB1, by rw [e2, e3]; exact hnm2⟩, hS.put e2c e3c (hdom a (by rw [ha]; omega)), fun b hb' => hdom b (by rw [← e1]; exact hb'), by rw [e2c]; exact hc1, by rw [e2c]; exact hs1⟩ ls hl
    · rw [e7 cj j b hc hj, if_neg (fun h => hb' h.2.2)]
    · have : cj = ci := by rw [ha] at hcj; omega
      subst this
      refine t_OB.to (V := updV (fun j => xf_v σ cj j a) k v) ⟨_, e1c, q2, q3, t_set q4 hap hk v⟩ (fun j hj => ?_)
      rw [e7 cj j a hci hj]
      unfold updV
      by_cases hjk : j = k
      · simp [hjk]
      · simp [hjk]
    · rw [ha] at ht; omega
    · rw [ha] at ht; omega
theorem xf_ix {ci k cj j : Nat} (hk : k < 64) (hj : j < 64) : 64 * cj + j = 64 * ci + k ↔ cj = ci ∧ j = k := by omega
theorem x_putI {M : xM} {pc : Nat} {lv : List (Nat × Value)} {st : List Value} {σ : xS} {Q : Option Value → xS → Prop} {idx ci k a f : Nat} {x : Int32} (hd : decode (xm_c M) pc = .ok (.putfield idx, 3)) (hw : Cond.fieldLink (xm_y M).cls idx (xf_C ci) (xf_T ci k).2.1 (xf_T ci k).2.2.1 ∈ xTb) (hci : ci < 8) (hk : k < xf_N ci) (ha : xh_k σ a = ci + 1) (hfin : (xf_T ci k).2.2.2 = false ∨ ((xf_T ci k).2.2.2 = true ∧ (xm_y M).name = "<init>" ∧ xf_C ci = (xm_y M).cls)) (hf : f = 64 * ci + k) (hs : xf_ty ci k = .int ∨ (xf_ty ci k = .boolean ∧ (x = 0 ∨ x = 1))) (kk : xX M (pc + 3) lv st (xs_I σ f a x) Q) : xX M pc lv (.int x :: .ref a :: st) σ Q := by
  subst hf
  have hs0 : xf_s (xf_ty ci k) = 0 := by rcases hs with h | h <;> simp [h, xf_s]
  refine x_put0 (σ2 := xs_I σ (64 * ci + k) a x) hd hw hci hk ha hfin ?_ ?_ rfl rfl rfl rfl rfl rfl (fun cj j b hc hj => ?_) kk
  · rcases hs with h | ⟨h, h2⟩
    · rw [h]; rfl
    · rw [h]; rcases h2 with rfl | rfl <;> rfl
  · rcases hs with h | ⟨h, h2⟩
    · rw [h]; rfl
    · rw [h]; rcases h2 with rfl | rfl <;> rfl
  · have hj64 : j < 64 := Nat.lt_trans hj xf_N64
    have hk64 : k < 64 := Nat.lt_trans hk xf_N64
    have hI : xh_I (xs_I σ (64 * ci + k) a x) (64 * cj + j) b = if cj = ci ∧ j = k ∧ b = a then x else xh_I σ (64 * cj + j) b := by
      show xu_2 (xh_I σ) (64 * ci + k) a x (64 * cj + j) b = _
      unfold xu_2
      simp only [xf_ix hk64 hj64, and_assoc]
    unfold xf_v
    rw [hI]
    by_cases h : cj = ci ∧ j = k ∧ b = a
    · obtain ⟨rfl, rfl, rfl⟩ := h
      simp [hs0]
    · simp only [if_neg h]
      rfl
theorem x_putL {M : xM} {pc : Nat} {lv : List (Nat × Value)} {st : List Value} {σ : xS} {Q : Option Value → xS → Prop} {idx ci k a f : Nat} {x : Int64} (hd : decode (xm_c M) pc = .ok (.putfield idx, 3)) (hw : Cond.fieldLink (xm_y M).cls idx (xf_C ci) (xf_T ci k).2.1 (xf_T ci k).2.2.1 ∈ xTb) (hci : ci < 8) (hk : k < xf_N ci) (ha : xh_k σ a = ci + 1) (hfin : (xf_T ci k).2.2.2 = false ∨ ((xf_T ci k).2.2.2 = true ∧ (xm_y M).name = "<init>" ∧ xf_C ci = (xm_y M).cls)) (hf : f = 64 * ci + k) (hs : xf_ty ci k = .long) (kk : xX M (pc + 3) lv st (xs_L σ f a x) Q) : xX M pc lv (.long x :: .ref a :: st) σ Q := by
  subst hf
  have hs0 : xf_s (xf_ty ci k) = 2 := by simp [hs, xf_s]
  refine x_put0 (σ2 := xs_L σ (64 * ci + k) a x) hd hw hci hk ha hfin (by rw [hs]; rfl) (by rw [hs]; rfl) rfl rfl rfl rfl rfl rfl (fun cj j b hc hj => ?_) kk
  have hj64 : j < 64 := Nat.lt_trans hj xf_N64
  have hk64 : k < 64 := Nat.lt_trans hk xf_N64
  have hI : xh_L (xs_L σ (64 * ci + k) a x) (64 * cj + j) b = if cj = ci ∧ j = k ∧ b = a then x else xh_L σ (64 * cj + j) b := by
    show xu_2 (xh_L σ) (64 * ci + k) a x (64 * cj + j) b = _
    unfold xu_2
    simp only [xf_ix hk64 hj64, and_assoc]
  unfold xf_v
  rw [hI]
  by_cases h : cj = ci ∧ j = k ∧ b = a
  · obtain ⟨rfl, rfl, rfl⟩ := h
    simp [hs0]
  · simp only [if_neg h]
    rfl
theorem x_putR {M : xM} {pc : Nat} {lv : List (Nat × Value)} {st : List Value} {σ : xS} {Q : Option Value → xS → Prop} {idx ci k a f : Nat} {r : Option Nat} (hd : decode (xm_c M) pc = .ok (.putfield idx, 3)) (hw : Cond.fieldLink (xm_y M).cls idx (xf_C ci) (xf_T ci k).2.1 (xf_T ci k).2.2.1 ∈ xTb) (hci : ci < 8) (hk : k < xf_N ci) (ha : xh_k σ a = ci + 1) (hfin : (xf_T ci k).2.2.2 = false ∨ ((xf_T ci k).2.2.2 = true ∧ (xm_y M).name = "<init>" ∧ xf_C ci = (xm_y M).cls)) (hf : f = 64 * ci + k) (hs : xf_s (xf_ty ci k) = 1) (kk : xX M (pc + 3) lv st (xs_R σ f a r) Q) : xX M pc lv (va_rf r :: .ref a :: st) σ Q := by
  subst hf
  have hN : narrow (xf_ty ci k) (va_rf r) = va_rf r ∧ fits (xf_ty ci k) (va_rf r) = true := by
    cases ht : xf_ty ci k <;> rw [ht] at hs <;> first | (exact absurd hs (by decide)) | (cases r <;> exact ⟨rfl, rfl⟩)
  refine x_put0 (σ2 := xs_R σ (64 * ci + k) a r) hd hw hci hk ha hfin hN.1 hN.2 rfl rfl rfl rfl rfl rfl (fun cj j b hc hj => ?_) kk
  have hj64 : j < 64 := Nat.lt_trans hj xf_N64
  have hk64 : k < 64 := Nat.lt_trans hk xf_N64
  have hI : xh_R (xs_R σ (64 * ci + k) a r) (64 * cj + j) b = if cj = ci ∧ j = k ∧ b = a then r else xh_R σ (64 * cj + j) b := by
    show xu_2 (xh_R σ) (64 * ci + k) a r (64 * cj + j) b = _
    unfold xu_2
    simp only [xf_ix hk64 hj64, and_assoc]
  unfold xf_v
  rw [hI]
  by_cases h : cj = ci ∧ j = k ∧ b = a
  · obtain ⟨rfl, rfl, rfl⟩ := h
    simp [hs]
  · simp only [if_neg h]
    rfl
end
section
theorem xa_K {G : xG} {s : State} (h : va_K G.1 vwCl (xT G) s) {t : Nat} {q : ClassId × FieldType} (ht : (xT G)[t]? = some q) : ArrOfT s q.1 q.2 ∧ va_RA s q.1 q.2 := h.2 t q ht
theorem x_iald {M : xM} {pc : Nat} {lv : List (Nat × Value)} {st : List Value} {σ : xS} {Q : Option Value → xS → Prop} {a : Nat} {i : Int32} (hd : decode (xm_c M) pc = .ok (.iaload, 1)) (ha : xh_k σ a = 9) (hin : vp_in i (xh_z σ a)) (kk : xX M (pc + 1) lv (.int (xh_a σ a i.toNatClampNeg) :: st) σ Q) : xX M pc lv (.int i :: .ref a :: st) σ Q := by
  intro l B G A p e R s m args below meth c C H locs cells slots L ls hl
  have C0 := C
  obtain ⟨hx, hb, hr, hml, hown, hts, ⟨hK, hNw⟩, hlk, hnm, hA, hR, hB⟩ := C
  have L0 := L
  obtain ⟨⟨hxr, hn, hm, hB1, hnm2⟩, hS, hdom, hc1, hs1⟩ := L
  have hcell := hxr.2.1 a 0 ha (by decide)
  have hlt : i.toNatClampNeg < xh_z σ a := Nat.not_le.mp fun q => hin (Or.inr q)
  exact W.iald hx hb hcell ((xa_K hK (t := 0) rfl).1 _ _) (fun q => by cases q) (by rw [arrV_size]; exact hin) (by rw [arrV_read _ _ hlt]) rfl rfl hd (kk l B G A p e R s m args below meth c C0 H locs cells slots L0 ls hl)
theorem x_zald {M : xM} {pc : Nat} {lv : List (Nat × Value)} {st : List Value} {σ : xS} {Q : Option Value → xS → Prop} {a : Nat} {i : Int32} (hd : decode (xm_c M) pc = .ok (.baload, 1)) (ha : xh_k σ a = 10) (hin : vp_in i (xh_z σ a)) (kk : xX M (pc + 1) lv (.int (xh_a σ a i.toNatClampNeg) :: st) σ Q) : xX M pc lv (.int i :: .ref a :: st) σ Q := by
  intro l B G A p e R s m args below meth c C H locs cells slots L ls hl
  have C0 := C
  obtain ⟨hx, hb, hr, hml, hown, hts, ⟨hK, hNw⟩, hlk, hnm, hA, hR, hB⟩ := C
  have L0 := L
  obtain ⟨⟨hxr, hn, hm, hB1, hnm2⟩, hS, hdom, hc1, hs1⟩ := L
  have hcell := hxr.2.1 a 1 ha (by decide)
  have hlt : i.toNatClampNeg < xh_z σ a := Nat.not_le.mp fun q => hin (Or.inr q)
  exact W.zald hx hb hcell ((xa_K hK (t := 1) rfl).1 _ _) (fun q => by cases q) (by rw [arrV_size]; exact hin) (by rw [arrV_read _ _ hlt]) rfl rfl hd (kk l B G A p e R s m args below meth c C0 H locs cells slots L0 ls hl)
theorem x_aald {M : xM} {pc : Nat} {lv : List (Nat × Value)} {st : List Value} {σ : xS} {Q : Option Value → xS → Prop} {a t : Nat} {i : Int32} (hd : decode (xm_c M) pc = .ok (.aaload, 1)) (ha : xh_k σ a = t + 11) (ht : t < 4) (hin : vp_in i (xh_z σ a)) (kk : xX M (pc + 1) lv (va_rf (xh_q σ a i.toNatClampNeg) :: st) σ Q) : xX M pc lv (.int i :: .ref a :: st) σ Q := by
  intro l B G A p e R s m args below meth c C H locs cells slots L ls hl
  have C0 := C
  obtain ⟨hx, hb, hr, hml, hown, hts, ⟨hK, hNw⟩, hlk, hnm, hA, hR, hB⟩ := C
  have L0 := L
  obtain ⟨⟨hxr, hn, hm, hB1, hnm2⟩, hS, hdom, hc1, hs1⟩ := L
  have hcell := hxr.2.2.1 a t ha ht
  have hlt : i.toNatClampNeg < xh_z σ a := Nat.not_le.mp fun q => hin (Or.inr q)
  have hty : ∃ C : String, ArrOfT s (G.2 (t + 2)) (.object C) := by
    match t, ht with
    | 0, _ => exact ⟨_, (xa_K hK (t := 2) rfl).1⟩
    | 1, _ => exact ⟨_, (xa_K hK (t := 3) rfl).1⟩
    | 2, _ => exact ⟨_, (xa_K hK (t := 4) rfl).1⟩
    | 3, _ => exact ⟨_, (xa_K hK (t := 5) rfl).1⟩
    | n + 4, h => exact absurd h (by omega)
  obtain ⟨C, hty⟩ := hty
  exact W.aald hx hb hcell (hty _ _) rfl (fun q => by cases q) (by rw [arrV_size]; exact hin) (by rw [arrV_read _ _ hlt]) rfl rfl hd (kk l B G A p e R s m args below meth c C0 H locs cells slots L0 ls hl)
theorem x_alen {M : xM} {pc : Nat} {lv : List (Nat × Value)} {st : List Value} {σ : xS} {Q : Option Value → xS → Prop} {a t : Nat} (hd : decode (xm_c M) pc = .ok (.arraylength, 1)) (ha : xh_k σ a = t + 9) (ht : t < 6) (kk : xX M (pc + 1) lv (.int (Int32.ofNat (xh_z σ a)) :: st) σ Q) : xX M pc lv (.ref a :: st) σ Q := by
  intro l B G A p e R s m args below meth c C H locs cells slots L ls hl
  have C0 := C
  obtain ⟨hx, hb, hr, hml, hown, hts, ⟨hK, hNw⟩, hlk, hnm, hA, hR, hB⟩ := C
  have L0 := L
  obtain ⟨⟨hxr, hn, hm, hB1, hnm2⟩, hS, hdom, hc1, hs1⟩ := L
  have hc : ∃ (f : Nat → Value) (ty : FieldType), H[a]? = some (arrV (G.2 t) (xh_z σ a) f) ∧ ArrOfT s (G.2 t) ty := by
    match t, ht with
    | 0, _ => exact ⟨_, _, hxr.2.1 a 0 ha (by decide), (xa_K hK (t := 0) rfl).1⟩
    | 1, _ => exact ⟨_, _, hxr.2.1 a 1 ha (by decide), (xa_K hK (t := 1) rfl).1⟩
    | 2, _ => exact ⟨_, _, hxr.2.2.1 a 0 ha (by decide), (xa_K hK (t := 2) rfl).1⟩
    | 3, _ => exact ⟨_, _, hxr.2.2.1 a 1 ha (by decide), (xa_K hK (t := 3) rfl).1⟩
    | 4, _ => exact ⟨_, _, hxr.2.2.1 a 2 ha (by decide), (xa_K hK (t := 4) rfl).1⟩
    | 5, _ => exact ⟨_, _, hxr.2.2.1 a 3 ha (by decide), (xa_K hK (t := 5) rfl).1⟩
    | n + 6, h => exact absurd h (by omega)
  obtain ⟨f, ty, hcell, hty⟩ := hc
  exact W.alen hx hb hcell (hty _ _) (by rw [arrV_size]) rfl rfl hd (kk l B G A p e R s m args below meth c C0 H locs cells slots L0 ls hl)
theorem x_iast {M : xM} {pc : Nat} {lv : List (Nat × Value)} {st : List Value} {σ : xS} {Q : Option Value → xS → Prop} {a : Nat} {i x : Int32} (hd : decode (xm_c M) pc = .ok (.iastore, 1)) (ha : xh_k σ a = 9) (hin : vp_in i (xh_z σ a))  (kk : xX M (pc + 1) lv st (xs_a σ a i.toNatClampNeg x) Q) : xX M pc lv (.int x :: .int i :: .ref a :: st) σ Q := by
  intro l B G A p e R s m args below meth c C H locs cells slots L ls hl
  have C0 := C
  obtain ⟨hx, hb, hr, hml, hown, hts, ⟨hK, hNw⟩, hlk, hnm, hA, hR, hB⟩ := C
  have L0 := L
  obtain ⟨⟨hxr, hn, hm, hB1, hnm2⟩, hS, hdom, hc1, hs1⟩ := L
  have hcell := hxr.2.1 a 0 ha (by decide)
  refine W.iast hx hb hcell ((xa_K hK (t := 0) rfl).1 _ _) (fun q => by cases q) (by rw [arrV_size]; exact hin) rfl rfl hd fun H2 e1 e2 e3 => ?_
  have hne : ∀ b j, b ≠ a → xh_a (xs_a σ a i.toNatClampNeg x) b j = xh_a σ b j := fun b j h => by
    show xu_2 (xh_a σ) a i.toNatClampNeg x b j = _
    unfold xu_2
    rw [if_neg (fun z => h z.1)]
  refine kk l B G A p e R s m args below meth c C0 H2 _ cells slots ⟨⟨xr_upd hxr e2 e3 rfl rfl (fun _ _ _ _ _ _ => rfl) hne (fun _ _ _ => rfl) (fun cj hc h8 => ?_) (fun t2 ht2 _ => ?_) (fun t2 ht2 _ => ?_), by rw [e2]; exact hn, hm, hB1, hnm2⟩, hS.put e2 e3 (hdom a (by rw [ha]; decide)), hdom, by rw [e2]; exact hc1, by rw [e2]; exact hs1⟩ ls hl
  · rw [ha] at hc; omega
  · have : t2 = 0 := by rw [ha] at ht2; omega
    subst this
    rw [e1, arrV_store]
    congr 2
    funext j
    show updV _ _ _ j = Value.int (xu_2 (xh_a σ) a i.toNatClampNeg x a j)
    unfold updV xu_2
    by_cases hj : j = i.toNatClampNeg
    · simp [hj]
    · simp [hj]
  · rw [ha] at ht2; omega
theorem x_zast {M : xM} {pc : Nat} {lv : List (Nat × Value)} {st : List Value} {σ : xS} {Q : Option Value → xS → Prop} {a : Nat} {i x : Int32} (hd : decode (xm_c M) pc = .ok (.bastore, 1)) (ha : xh_k σ a = 10) (hin : vp_in i (xh_z σ a)) (hz : x = 0 ∨ x = 1) (kk : xX M (pc + 1) lv st (xs_a σ a i.toNatClampNeg x) Q) : xX M pc lv (.int x :: .int i :: .ref a :: st) σ Q := by
  intro l B G A p e R s m args below meth c C H locs cells slots L ls hl
  have C0 := C
  obtain ⟨hx, hb, hr, hml, hown, hts, ⟨hK, hNw⟩, hlk, hnm, hA, hR, hB⟩ := C
  have L0 := L
  obtain ⟨⟨hxr, hn, hm, hB1, hnm2⟩, hS, hdom, hc1, hs1⟩ := L
  have hcell := hxr.2.1 a 1 ha (by decide)
  refine W.zast hx hb hcell ((xa_K hK (t := 1) rfl).1 _ _) (fun q => by cases q) (by rw [arrV_size]; exact hin) rfl rfl hd fun H2 e1 e2 e3 => ?_
  have hne : ∀ b j, b ≠ a → xh_a (xs_a σ a i.toNatClampNeg x) b j = xh_a σ b j := fun b j h => by
    show xu_2 (xh_a σ) a i.toNatClampNeg x b j = _
    unfold xu_2
    rw [if_neg (fun z => h z.1)]
  refine kk l B G A p e R s m args below meth c C0 H2 _ cells slots ⟨⟨xr_upd hxr e2 e3 rfl rfl (fun _ _ _ _ _ _ => rfl) hne (fun _ _ _ => rfl) (fun cj hc h8 => ?_) (fun t2 ht2 _ => ?_) (fun t2 ht2 _ => ?_), by rw [e2]; exact hn, hm, hB1, hnm2⟩, hS.put e2 e3 (hdom a (by rw [ha]; decide)), hdom, by rw [e2]; exact hc1, by rw [e2]; exact hs1⟩ ls hl
  · rw [ha] at hc; omega
  · have : t2 = 1 := by rw [ha] at ht2; omega
    subst this
    rw [e1, arrV_store]
    congr 2
    funext j
    show updV _ _ _ j = Value.int (xu_2 (xh_a σ) a i.toNatClampNeg x a j)
    unfold updV xu_2
    by_cases hj : j = i.toNatClampNeg
    · simp [hj]; rcases hz with rfl | rfl <;> rfl
    · simp [hj]
  · rw [ha] at ht2; omega
theorem x_aast {M : xM} {pc : Nat} {lv : List (Nat × Value)} {st : List Value} {σ : xS} {Q : Option Value → xS → Prop} {a t v : Nat} {i : Int32} (hd : decode (xm_c M) pc = .ok (.aastore, 1)) (ha : xh_k σ a = t + 11) (ht : t < 4) (hv : xh_k σ v = xa_c t + 1) (hin : vp_in i (xh_z σ a)) (kk : xX M (pc + 1) lv st (xs_q σ a i.toNatClampNeg (some v)) Q) : xX M pc lv (.ref v :: .int i :: .ref a :: st) σ Q := by
  intro l B G A p e R s m args below meth c C H locs cells slots L ls hl
  have C0 := C
  obtain ⟨hx, hb, hr, hml, hown, hts, ⟨hK, hNw⟩, hlk, hnm, hA, hR, hB⟩ := C
  have L0 := L
  obtain ⟨⟨hxr, hn, hm, hB1, hnm2⟩, hS, hdom, hc1, hs1⟩ := L
  have hcell := hxr.2.2.1 a t ha ht
  have hlt : i.toNatClampNeg < xh_z σ a := Nat.not_le.mp fun q => hin (Or.inr q)
  have h0 : ¬ i < 0 := fun q => hin (Or.inl q)
  have hct : xa_c t < 8 := by unfold xa_c; split <;> decide
  obtain ⟨cellV, g1, g2, g3, -⟩ := hxr.1 v (xa_c t) hv hct
  have hcls := (hK.1 (xa_c t) _ (xf_cl hct)).2
  have hra : va_RA s (G.2 (t + 2)) (.object (xf_C (xa_c t))) := by
    match t, ht with
    | 0, _ => exact (xa_K hK (t := 2) rfl).2
    | 1, _ => exact (xa_K hK (t := 3) rfl).2
    | 2, _ => exact (xa_K hK (t := 4) rfl).2
    | 3, _ => exact (xa_K hK (t := 5) rfl).2
    | n + 4, h => exact absurd h (by omega)
  obtain ⟨kA, comp, k1, k2, k3, -⟩ := hra
  have hcomp : comp = G.1.1 (xa_c t) := Option.some.inj (k3.symm.trans hcls.1)
  subst hcomp
  obtain ⟨kC, hkC, hkind⟩ := hcls.2
  refine W.aast hx hb hcell (fun q h => by cases h) (fun h => by cases h) k1 k2 rfl hkC ⟨h0, by rw [arrV_size]; exact hlt⟩ g1 (fun q h => by rw [g3] at h; cases h) (by rw [g2]; exact hkC) (by rw [g2]; exact va_assign hcls) rfl rfl hd fun H2 e1 e2 e3 => ?_
  have hne : ∀ b j, b ≠ a → xh_q (xs_q σ a i.toNatClampNeg (some v)) b j = xh_q σ b j := fun b j h => by
    show xu_2 (xh_q σ) a i.toNatClampNeg (some v) b j = _
    unfold xu_2
    rw [if_neg (fun z => h z.1)]
  refine kk l B G A p e R s m args below meth c C0 H2 _ cells slots ⟨⟨xr_upd hxr e2 e3 rfl rfl (fun _ _ _ _ _ _ => rfl) (fun _ _ _ => rfl) hne (fun cj hc h8 => ?_) (fun t2 ht2 h3 => ?_) (fun t2 ht2 _ => ?_), by rw [e2]; exact hn, hm, hB1, hnm2⟩, hS.put e2 e3 (hdom a (by rw [ha]; omega)), hdom, by rw [e2]; exact hc1, by rw [e2]; exact hs1⟩ ls hl
  · rw [ha] at hc; omega
  · rw [ha] at ht2; omega
  · have : t2 = t := by rw [ha] at ht2; omega
    subst this
    rw [e1, arrV_store]
    congr 2
    funext j
    show updV _ _ _ j = va_rf (xu_2 (xh_q σ) a i.toNatClampNeg (some v) a j)
    unfold updV xu_2
    by_cases hj : j = i.toNatClampNeg
    · simp [hj, va_rf]
    · simp [hj]
theorem xr_push {G : xG} {σ σ2 : xS} {H H2 : Heap} (h : xr G σ H) (hn : H.size = xh_n σ) (hz : H2.size = H.size + 1) (ho : ∀ q, q < H.size → H2[q]? = H[q]?) {kd : Nat} (hkd : kd < 15) (hk : xh_k σ2 = va_up (xh_k σ) (xh_n σ) kd) (hzz : ∀ b, b ≠ xh_n σ → xh_z σ2 b = xh_z σ b)
    (hf : ∀ ci j b, b ≠ xh_n σ → ci < 8 → j < xf_N ci → xf_v σ2 ci j b = xf_v σ ci j b) (ha1 : ∀ b j, b ≠ xh_n σ → xh_a σ2 b j = xh_a σ b j) (hq : ∀ b j, b ≠ xh_n σ → xh_q σ2 b j = xh_q σ b j)
    (n1 : ∀ ci, kd = ci + 1 → ci < 8 → t_OB (xh_n σ) (G.1.1 ci) (xf_N ci) (G.1.2 ci) H2 (fun j => xf_v σ2 ci j (xh_n σ)))
    (n2 : ∀ t, kd = t + 9 → t < 2 → H2[xh_n σ]? = some (arrV (G.2 t) (xh_z σ2 (xh_n σ)) (fun j => .int (xh_a σ2 (xh_n σ) j))))
    (n3 : ∀ t, kd = t + 11 → t < 4 → H2[xh_n σ]? = some (arrV (G.2 (t + 2)) (xh_z σ2 (xh_n σ)) (fun j => va_rf (xh_q σ2 (xh_n σ) j)))) : xr G σ2 H2 := by
  obtain ⟨h1, h2, h3, h4, h5⟩ := h
  have hks : xh_k σ2 (xh_n σ) = kd := by rw [hk]; simp [va_up]
  have hkn : ∀ b, b ≠ xh_n σ → xh_k σ2 b = xh_k σ b := fun b e => by rw [hk]; simp [va_up, e]
  have hlt : ∀ b, xh_k σ b ≠ 0 → H2[b]? = H[b]? := fun b hb => ho b (h5 b hb)
  refine ⟨fun b ci hb hc => ?_, fun b t hb ht => ?_, fun b t hb ht => ?_, fun b => ?_, fun b hb => ?_⟩
  · by_cases e : b = xh_n σ
    · subst e; exact n1 ci (hks.symm.trans hb) hc
    · rw [hkn b e] at hb
      exact ((h1 b ci hb hc).kept (hlt b (by omega))).to (fun k hk' => (hf ci k b e hc hk').symm)
  · by_cases e : b = xh_n σ
    · subst e; exact n2 t (hks.symm.trans hb) ht
    · rw [hkn b e] at hb
      rw [hlt b (by omega), h2 b t hb ht, hzz b e]
      have : (fun j => Value.int (xh_a σ2 b j)) = (fun j => Value.int (xh_a σ b j)) := funext fun j => by rw [ha1 b j e]
      rw [this]
  · by_cases e : b = xh_n σ
    · subst e; exact n3 t (hks.symm.trans hb) ht
    · rw [hkn b e] at hb
      rw [hlt b (by omega), h3 b t hb ht, hzz b e]
      have : (fun j => va_rf (xh_q σ2 b j)) = (fun j => va_rf (xh_q σ b j)) := funext fun j => by rw [hq b j e]
      rw [this]
  · by_cases e : b = xh_n σ
    · subst e; rw [hks]; exact hkd
    · rw [hkn b e]; exact h4 b
  · by_cases e : b = xh_n σ
    · omega
    · rw [hkn b e] at hb
      have := h5 b hb
      omega
theorem xf_nf : ∀ ci, ci < 8 → ∀ j, j < xf_N ci → xf_ty ci j ≠ .float ∧ xf_ty ci j ≠ .double := by decide +kernel
theorem xf_dv {σ : xS} {ci j : Nat} (hc : ci < 8) (hj : j < xf_N ci) : defaultValue (xf_ty ci j) = xf_v (xs_new σ ci) ci j (xh_n σ) := by
  have e1 : xh_R (xs_new σ ci) (64 * ci + j) (xh_n σ) = none := by show (if xh_n σ = xh_n σ then none else _) = none; simp
  have e2 : xh_L (xs_new σ ci) (64 * ci + j) (xh_n σ) = 0 := by show (if xh_n σ = xh_n σ then 0 else _) = (0 : Int64); simp
  have e3 : xh_I (xs_new σ ci) (64 * ci + j) (xh_n σ) = 0 := by show (if xh_n σ = xh_n σ then 0 else _) = (0 : Int32); simp
  have hn := xf_nf ci hc j hj
  unfold xf_v
  rw [e1, e2, e3]
  cases h : xf_ty ci j <;> rw [h] at hn <;> first | rfl | exact absurd rfl hn.1 | exact absurd rfl hn.2
theorem x_new {M : xM} {pc : Nat} {lv : List (Nat × Value)} {st : List Value} {σ : xS} {Q : Option Value → xS → Prop} {idx ci : Nat} (hd : decode (xm_c M) pc = .ok (.new idx, 3)) (hci : ci < 8) (h1 : Cond.classLink (xm_y M).cls idx (xf_C ci) ∈ xTb) (h2 : Cond.instantiable (xf_C ci) (xf_N ci) ∈ xTb) (h3 : Cond.initialized (xf_C ci) ∈ xTb) (hroom : xh_n σ < xh_m σ) (kk : xX M (pc + 3) lv (.ref (xh_n σ) :: st) (xs_new σ ci) Q) : xX M pc lv st σ Q := by
  intro l B G A p e R s m args below meth c C H locs cells slots L ls hl
  have C0 := C
  obtain ⟨hx, hb, hr, hml, hown, hts, ⟨hK, hNw⟩, hlk, hnm, hA, hR, hB⟩ := C
  have L0 := L
  obtain ⟨⟨hxr, hn, hm, hB1, hnm2⟩, hS, hdom, hc1, hs1⟩ := L
  have hKn := hK.1 ci _ (xf_cl hci)
  have hN := @xf_N64 ci
  have hin : ∀ w ∈ u_ws (xf_C ci) (xf_T ci) (xf_N ci), w ∈ xW M := fun w h => List.mem_cons_of_mem _ (xf_in hci w h)
  have hRc : R.cells = B.1 + 18000 - s.heap.size := by rw [hR]
  have hRs : R.slots = B.2 + 7200000 - xtot s.heap := by rw [hR]
  refine W.newcK hx hb hown (hts _ (List.mem_cons_of_mem _ h1)) (hts _ (List.mem_cons_of_mem _ h2)) (hts _ (List.mem_cons_of_mem _ h3)) rfl hd (by rw [hRc]; omega) (by rw [hRs]; omega) hKn.2.1 hn fun H2 kC hkC e1 z1 o1 => ?_
  refine kk l B G A p e R s m args below meth c C0 H2 locs (cells + 1) (slots + xf_N ci) ⟨⟨xr_push hxr hn (by omega) (fun q h => o1 q (by omega)) (kd := ci + 1) (by omega) rfl (fun _ _ => rfl) (fun cj j b hb _ _ => ?_) (fun _ _ _ => rfl) (fun _ _ _ => rfl) (fun cj hcj h8 => ?_) (fun t ht _ => by omega) (fun t ht _ => by omega), ?_, hm, ?_, ?_⟩, ⟨by have := hS.1; omega, fun q h4 h5 => (o1 q (by have := hS.1; omega)).trans (hS.2.1 q h4 h5), hS.2.2⟩, fun b hb => ?_, by omega, by omega⟩ ls hl
  · unfold xf_v
    show (if _ then va_rf (if b = xh_n σ then none else _) else if _ then Value.long (if b = xh_n σ then 0 else _) else Value.int (if b = xh_n σ then 0 else _)) = _
    rw [if_neg hb, if_neg hb, if_neg hb]
  · have : cj = ci := by omega
    subst this
    exact (u_born (xf_ty cj) hts hin hKn hkC e1 (xf_tyok hci)).to (fun j hj => xf_dv hci hj)
  · show H2.size = xh_n σ + 1
    omega
  · show B.1 ≤ xh_n σ + 1
    omega
  · show xh_n σ + 1 ≤ xh_m σ
    omega
  · by_cases e : b = xh_n σ
    · exact hA b (by have := hS.1; omega)
    · exact hdom b (by have : xh_k (xs_new σ ci) b = xh_k σ b := by (show va_up (xh_k σ) (xh_n σ) (ci + 1) b = _); simp [va_up, e]
                       rw [← this]; exact hb)
theorem x_newI {M : xM} {pc : Nat} {lv : List (Nat × Value)} {st : List Value} {σ : xS} {Q : Option Value → xS → Prop} {n : Int32} (hd : decode (xm_c M) pc = .ok (.newarray .int, 2)) (h1 : Cond.arrayClass .int ∈ xTb) (hroom : xh_n σ < xh_m σ) (hn0 : ¬ n < 0) (hn4 : n.toNatClampNeg ≤ 400) (kk : xX M (pc + 2) lv (.ref (xh_n σ) :: st) (xs_arr σ 9 n.toNatClampNeg) Q) : xX M pc lv (.int n :: st) σ Q := by
  intro l B G A p e R s m args below meth c C H locs cells slots L ls hl
  have C0 := C
  obtain ⟨hx, hb, hr, hml, hown, hts, ⟨hK, hNw⟩, hlk, hnm, hA, hR, hB⟩ := C
  have L0 := L
  obtain ⟨⟨hxr, hn, hm, hB1, hnm2⟩, hS, hdom, hc1, hs1⟩ := L
  have hRc : R.cells = B.1 + 18000 - s.heap.size := by rw [hR]
  have hRs : R.slots = B.2 + 7200000 - xtot s.heap := by rw [hR]
  refine va_newaK hx hb (atype := .int) (hts _ (List.mem_cons_of_mem _ h1)) rfl hd rfl hn0 rfl (by simp only [newarray.typeOf, componentBytes]; omega) (by rw [hRc]; omega) (by rw [hRs]; omega) hn fun H2 cA e1 z1 o1 hAr hNm => ?_
  refine kk l B G A p e R s m args below meth c C0 H2 locs (cells + 1) (slots + n.toNatClampNeg) ⟨⟨xr_push hxr hn (by omega) (fun q h => o1 q (by omega)) (kd := 9) (by omega) rfl (fun b hb => ?_) (fun cj j b hb _ _ => rfl) (fun b j hb => ?_) (fun b j hb => ?_) (fun cj hcj h8 => by omega) (fun t ht h4 => ?_) (fun t ht h4 => ?_), ?_, hm, ?_, ?_⟩, ⟨by have := hS.1; omega, fun q h4 h5 => (o1 q (by have := hS.1; omega)).trans (hS.2.1 q h4 h5), hS.2.2⟩, fun b hb => ?_, by omega, by omega⟩ ls hl
  · show va_up (xh_z σ) (xh_n σ) n.toNatClampNeg b = _
    simp [va_up, hb]
  · show (if b = xh_n σ then 0 else _) = _
    rw [if_neg hb]
  · show (if b = xh_n σ then none else _) = _
    rw [if_neg hb]
  · have : t = 0 := by omega
    subst this
    have hz2 : xh_z (xs_arr σ 9 n.toNatClampNeg) (xh_n σ) = n.toNatClampNeg := by (show va_up (xh_z σ) (xh_n σ) n.toNatClampNeg (xh_n σ) = _); simp [va_up]
    have ha2 : ∀ j, xh_a (xs_arr σ 9 n.toNatClampNeg) (xh_n σ) j = 0 := fun j => by (show (if xh_n σ = xh_n σ then 0 else _) = (0 : Int32)); simp
    have hcA : cA = G.2 0 := Option.some.inj (hNm.symm.trans (xa_K hK (t := 0) rfl).2)
    rw [hz2, ← hcA]
    simp only [ha2]
    exact e1
  · omega
  · show H2.size = xh_n σ + 1
    omega
  · show B.1 ≤ xh_n σ + 1
    omega
  · show xh_n σ + 1 ≤ xh_m σ
    omega
  · by_cases e : b = xh_n σ
    · exact hA b (by have := hS.1; omega)
    · exact hdom b (by have : xh_k (xs_arr σ (9) n.toNatClampNeg) b = xh_k σ b := by (show va_up (xh_k σ) (xh_n σ) (9) b = _); simp [va_up, e]
                       rw [← this]; exact hb)
theorem x_newZ {M : xM} {pc : Nat} {lv : List (Nat × Value)} {st : List Value} {σ : xS} {Q : Option Value → xS → Prop} {n : Int32} (hd : decode (xm_c M) pc = .ok (.newarray .boolean, 2)) (h1 : Cond.arrayClass .boolean ∈ xTb) (hroom : xh_n σ < xh_m σ) (hn0 : ¬ n < 0) (hn4 : n.toNatClampNeg ≤ 400) (kk : xX M (pc + 2) lv (.ref (xh_n σ) :: st) (xs_arr σ 10 n.toNatClampNeg) Q) : xX M pc lv (.int n :: st) σ Q := by
  intro l B G A p e R s m args below meth c C H locs cells slots L ls hl
  have C0 := C
  obtain ⟨hx, hb, hr, hml, hown, hts, ⟨hK, hNw⟩, hlk, hnm, hA, hR, hB⟩ := C
  have L0 := L
  obtain ⟨⟨hxr, hn, hm, hB1, hnm2⟩, hS, hdom, hc1, hs1⟩ := L
  have hRc : R.cells = B.1 + 18000 - s.heap.size := by rw [hR]
  have hRs : R.slots = B.2 + 7200000 - xtot s.heap := by rw [hR]
  refine va_newaK hx hb (atype := .boolean) (hts _ (List.mem_cons_of_mem _ h1)) rfl hd rfl hn0 rfl (by simp only [newarray.typeOf, componentBytes]; omega) (by rw [hRc]; omega) (by rw [hRs]; omega) hn fun H2 cA e1 z1 o1 hAr hNm => ?_
  refine kk l B G A p e R s m args below meth c C0 H2 locs (cells + 1) (slots + n.toNatClampNeg) ⟨⟨xr_push hxr hn (by omega) (fun q h => o1 q (by omega)) (kd := 10) (by omega) rfl (fun b hb => ?_) (fun cj j b hb _ _ => rfl) (fun b j hb => ?_) (fun b j hb => ?_) (fun cj hcj h8 => by omega) (fun t ht h4 => ?_) (fun t ht h4 => ?_), ?_, hm, ?_, ?_⟩, ⟨by have := hS.1; omega, fun q h4 h5 => (o1 q (by have := hS.1; omega)).trans (hS.2.1 q h4 h5), hS.2.2⟩, fun b hb => ?_, by omega, by omega⟩ ls hl
  · show va_up (xh_z σ) (xh_n σ) n.toNatClampNeg b = _
    simp [va_up, hb]
  · show (if b = xh_n σ then 0 else _) = _
    rw [if_neg hb]
  · show (if b = xh_n σ then none else _) = _
    rw [if_neg hb]
  · have : t = 1 := by omega
    subst this
    have hz2 : xh_z (xs_arr σ 10 n.toNatClampNeg) (xh_n σ) = n.toNatClampNeg := by (show va_up (xh_z σ) (xh_n σ) n.toNatClampNeg (xh_n σ) = _); simp [va_up]
    have ha2 : ∀ j, xh_a (xs_arr σ 10 n.toNatClampNeg) (xh_n σ) j = 0 := fun j => by (show (if xh_n σ = xh_n σ then 0 else _) = (0 : Int32)); simp
    have hcA : cA = G.2 1 := Option.some.inj (hNm.symm.trans (xa_K hK (t := 1) rfl).2)
    rw [hz2, ← hcA]
    simp only [ha2]
    exact e1
  · omega
  · show H2.size = xh_n σ + 1
    omega
  · show B.1 ≤ xh_n σ + 1
    omega
  · show xh_n σ + 1 ≤ xh_m σ
    omega
  · by_cases e : b = xh_n σ
    · exact hA b (by have := hS.1; omega)
    · exact hdom b (by have : xh_k (xs_arr σ (10) n.toNatClampNeg) b = xh_k σ b := by (show va_up (xh_k σ) (xh_n σ) (10) b = _); simp [va_up, e]
                       rw [← this]; exact hb)
theorem x_newQ {M : xM} {pc : Nat} {lv : List (Nat × Value)} {st : List Value} {σ : xS} {Q : Option Value → xS → Prop} {n : Int32} {idx t0 : Nat} (hd : decode (xm_c M) pc = .ok (.anewarray idx, 3)) (ht0 : t0 < 4) (h1 : Cond.classLink (xm_y M).cls idx (xf_C (xa_c t0)) ∈ xTb) (hroom : xh_n σ < xh_m σ) (hn0 : ¬ n < 0) (hn4 : n.toNatClampNeg ≤ 400) (kk : xX M (pc + 3) lv (.ref (xh_n σ) :: st) (xs_arr σ (t0 + 11) n.toNatClampNeg) Q) : xX M pc lv (.int n :: st) σ Q := by
  intro l B G A p e R s m args below meth c C H locs cells slots L ls hl
  have C0 := C
  obtain ⟨hx, hb, hr, hml, hown, hts, ⟨hK, hNw⟩, hlk, hnm, hA, hR, hB⟩ := C
  have L0 := L
  obtain ⟨⟨hxr, hn, hm, hB1, hnm2⟩, hS, hdom, hc1, hs1⟩ := L
  have hRc : R.cells = B.1 + 18000 - s.heap.size := by rw [hR]
  have hRs : R.slots = B.2 + 7200000 - xtot s.heap := by rw [hR]
  refine W.anew hx hb hown (hts _ (List.mem_cons_of_mem _ h1)) (va_AO.use (hNw.2 t0 ht0)) rfl hd rfl hn0 (by omega) (by rw [hRc]; omega) (by rw [hRs]; omega) fun cA kA comp f1 f2 f3 f4 => ?_
  generalize hH2 : H.push ({ cls := cA, slots := Array.replicate n.toNatClampNeg .null, vm := .none } : Cell) = H2
  have z1 : H2.size = H.size + 1 := by rw [← hH2, Array.size_push]
  have e1 : H2[H.size]? = some (arrV cA n.toNatClampNeg (fun _ => .null)) := by rw [← hH2, Array.getElem?_push_size, ← arrV_new]
  have o1 : ∀ q : Nat, q < H.size → H2[q]? = H[q]? := fun q hq => by rw [← hH2, Array.getElem?_push, if_neg (Nat.ne_of_lt hq)]
  rw [hn]
  refine kk l B G A p e R s m args below meth c C0 H2 locs (cells + 1) (slots + n.toNatClampNeg) ⟨⟨xr_push hxr hn (by omega) (fun q h => o1 q (by omega)) (kd := t0 + 11) (by omega) rfl (fun b hb => ?_) (fun cj j b hb _ _ => rfl) (fun b j hb => ?_) (fun b j hb => ?_) (fun cj hcj h8 => by omega) (fun t ht h4 => ?_) (fun t ht h4 => ?_), ?_, hm, ?_, ?_⟩, ⟨by have := hS.1; omega, fun q h4 h5 => (o1 q (by have := hS.1; omega)).trans (hS.2.1 q h4 h5), hS.2.2⟩, fun b hb => ?_, by omega, by omega⟩ ls hl
  · show va_up (xh_z σ) (xh_n σ) n.toNatClampNeg b = _
    simp [va_up, hb]
  · show (if b = xh_n σ then 0 else _) = _
    rw [if_neg hb]
  · show (if b = xh_n σ then none else _) = _
    rw [if_neg hb]
  · omega
  · have : t = t0 := by omega
    subst this
    have hz2 : xh_z (xs_arr σ (t + 11) n.toNatClampNeg) (xh_n σ) = n.toNatClampNeg := by (show va_up (xh_z σ) (xh_n σ) n.toNatClampNeg (xh_n σ) = _); simp [va_up]
    have ha2 : ∀ j, xh_q (xs_arr σ (t + 11) n.toNatClampNeg) (xh_n σ) j = none := fun j => by (show (if xh_n σ = xh_n σ then none else _) = (none : Option Nat)); simp
    have hra : s.vm.findClass ("[" ++ (FieldType.object (xf_C (xa_c t))).toString) = some (G.2 (t + 2)) := by
      match t, h4 with
      | 0, _ => obtain ⟨_, _, _, _, _, h⟩ := (xa_K hK (t := 2) rfl).2; exact h
      | 1, _ => obtain ⟨_, _, _, _, _, h⟩ := (xa_K hK (t := 3) rfl).2; exact h
      | 2, _ => obtain ⟨_, _, _, _, _, h⟩ := (xa_K hK (t := 4) rfl).2; exact h
      | 3, _ => obtain ⟨_, _, _, _, _, h⟩ := (xa_K hK (t := 5) rfl).2; exact h
      | n + 4, h => exact absurd h (by omega)
    have hcA : cA = G.2 (t + 2) := Option.some.inj (f1.symm.trans hra)
    rw [hz2, ← hcA]
    simp only [ha2]
    rw [hn] at e1
    exact e1
  · show H2.size = xh_n σ + 1
    omega
  · show B.1 ≤ xh_n σ + 1
    omega
  · show xh_n σ + 1 ≤ xh_m σ
    omega
  · by_cases e : b = xh_n σ
    · exact hA b (by have := hS.1; omega)
    · exact hdom b (by have : xh_k (xs_arr σ (t0 + 11) n.toNatClampNeg) b = xh_k σ b := by (show va_up (xh_k σ) (xh_n σ) (t0 + 11) b = _); simp [va_up, e]
                       rw [← this]; exact hb)
end
section
theorem x_iret {M : xM} {pc : Nat} {lv : List (Nat × Value)} {σ : xS} {Q : Option Value → xS → Prop} {x : Int32} (hd : decode (xm_c M) pc = .ok (.ireturn, 1)) (hrt : xm_r M = some .int) (hq : Q (some (.int x)) σ) : xX M pc lv [.int x] σ Q := by
  intro l B G A p e R s m args below meth c C H locs cells slots L ls hl
  have C0 := C
  obtain ⟨hx, hb, hr, hml, hown, hts, ⟨hK, hNw⟩, hlk, hnm, hA, hR, hB⟩ := C
  have L0 := L
  obtain ⟨⟨hxr, hn, hm, hB1, hnm2⟩, hS, hdom, hc1, hs1⟩ := L
  have hRc : R.cells = B.1 + 18000 - s.heap.size := by rw [hR]
  have hRs : R.slots = B.2 + 7200000 - xtot s.heap := by rw [hR]
  refine xw_used fun u1 u2 => ?_
  refine W.widen (k := R.cells) (n := R.slots) (by rw [hRc]; omega) (by rw [hRs]; omega) ?_
  exact W.iret hx hb (hr.trans hrt) (fun t ht hW => ⟨_, σ, rfl, hq, ⟨by rw [ht]; exact hxr, by rw [ht]; exact hn, hm, hB1, hnm2⟩, by rw [ht]; omega, hdom, hS.F ht⟩) hS.2.2 hd
theorem x_zret {M : xM} {pc : Nat} {lv : List (Nat × Value)} {σ : xS} {Q : Option Value → xS → Prop} {x : Int32} (hd : decode (xm_c M) pc = .ok (.ireturn, 1)) (hrt : xm_r M = some .boolean) (hz : x = 0 ∨ x = 1) (hq : Q (some (.int x)) σ) : xX M pc lv [.int x] σ Q := by
  intro l B G A p e R s m args below meth c C H locs cells slots L ls hl
  have C0 := C
  obtain ⟨hx, hb, hr, hml, hown, hts, ⟨hK, hNw⟩, hlk, hnm, hA, hR, hB⟩ := C
  have L0 := L
  obtain ⟨⟨hxr, hn, hm, hB1, hnm2⟩, hS, hdom, hc1, hs1⟩ := L
  have hRc : R.cells = B.1 + 18000 - s.heap.size := by rw [hR]
  have hRs : R.slots = B.2 + 7200000 - xtot s.heap := by rw [hR]
  refine xw_used fun u1 u2 => ?_
  refine W.widen (k := R.cells) (n := R.slots) (by rw [hRc]; omega) (by rw [hRs]; omega) ?_
  exact W.zret (ty := .boolean) hx hb (hr.trans hrt) (by rcases hz with rfl | rfl <;> rfl) (fun t ht hW => ⟨_, σ, rfl, hq, ⟨by rw [ht]; exact hxr, by rw [ht]; exact hn, hm, hB1, hnm2⟩, by rw [ht]; omega, hdom, hS.F ht⟩) hS.2.2 hd
theorem x_lret {M : xM} {pc : Nat} {lv : List (Nat × Value)} {σ : xS} {Q : Option Value → xS → Prop} {x : Int64} (hd : decode (xm_c M) pc = .ok (.lreturn, 1)) (hrt : xm_r M = some .long) (hq : Q (some (.long x)) σ) : xX M pc lv [.long x] σ Q := by
  intro l B G A p e R s m args below meth c C H locs cells slots L ls hl
  have C0 := C
  obtain ⟨hx, hb, hr, hml, hown, hts, ⟨hK, hNw⟩, hlk, hnm, hA, hR, hB⟩ := C
  have L0 := L
  obtain ⟨⟨hxr, hn, hm, hB1, hnm2⟩, hS, hdom, hc1, hs1⟩ := L
  have hRc : R.cells = B.1 + 18000 - s.heap.size := by rw [hR]
  have hRs : R.slots = B.2 + 7200000 - xtot s.heap := by rw [hR]
  refine xw_used fun u1 u2 => ?_
  refine W.widen (k := R.cells) (n := R.slots) (by rw [hRc]; omega) (by rw [hRs]; omega) ?_
  exact W.lret hx hb (hr.trans hrt) (fun t ht hW => ⟨_, σ, rfl, hq, ⟨by rw [ht]; exact hxr, by rw [ht]; exact hn, hm, hB1, hnm2⟩, by rw [ht]; omega, hdom, hS.F ht⟩) hS.2.2 hd
theorem x_aret {M : xM} {pc : Nat} {lv : List (Nat × Value)} {σ : xS} {Q : Option Value → xS → Prop} {r : Option Nat} (hd : decode (xm_c M) pc = .ok (.areturn, 1)) {C1 : String} (hrt : xm_r M = some (.object C1)) (hq : Q (some (va_rf r)) σ) : xX M pc lv [va_rf r] σ Q := by
  intro l B G A p e R s m args below meth c C H locs cells slots L ls hl
  have C0 := C
  obtain ⟨hx, hb, hr, hml, hown, hts, ⟨hK, hNw⟩, hlk, hnm, hA, hR, hB⟩ := C
  have L0 := L
  obtain ⟨⟨hxr, hn, hm, hB1, hnm2⟩, hS, hdom, hc1, hs1⟩ := L
  have hRc : R.cells = B.1 + 18000 - s.heap.size := by rw [hR]
  have hRs : R.slots = B.2 + 7200000 - xtot s.heap := by rw [hR]
  refine xw_used fun u1 u2 => ?_
  refine W.widen (k := R.cells) (n := R.slots) (by rw [hRc]; omega) (by rw [hRs]; omega) ?_
  exact W.aret hx hb (hr.trans hrt) (Or.inl ⟨_, rfl⟩) (va_rf_or r) (fun t ht hW => ⟨_, σ, rfl, hq, ⟨by rw [ht]; exact hxr, by rw [ht]; exact hn, hm, hB1, hnm2⟩, by rw [ht]; omega, hdom, hS.F ht⟩) hS.2.2 hd
theorem x_vret {M : xM} {pc : Nat} {lv : List (Nat × Value)} {σ : xS} {Q : Option Value → xS → Prop}  (hd : decode (xm_c M) pc = .ok (.return_, 1)) (hrt : xm_r M = none) (hq : Q none σ) : xX M pc lv [] σ Q := by
  intro l B G A p e R s m args below meth c C H locs cells slots L ls hl
  have C0 := C
  obtain ⟨hx, hb, hr, hml, hown, hts, ⟨hK, hNw⟩, hlk, hnm, hA, hR, hB⟩ := C
  have L0 := L
  obtain ⟨⟨hxr, hn, hm, hB1, hnm2⟩, hS, hdom, hc1, hs1⟩ := L
  have hRc : R.cells = B.1 + 18000 - s.heap.size := by rw [hR]
  have hRs : R.slots = B.2 + 7200000 - xtot s.heap := by rw [hR]
  refine xw_used fun u1 u2 => ?_
  refine W.widen (k := R.cells) (n := R.slots) (by rw [hRc]; omega) (by rw [hRs]; omega) ?_
  exact W.vret hx hb (hr.trans hrt) (fun t ht hW => ⟨_, σ, rfl, hq, ⟨by rw [ht]; exact hxr, by rw [ht]; exact hn, hm, hB1, hnm2⟩, by rw [ht]; omega, hdom, hS.F ht⟩) hS.2.2 hd
/-- the entry: a walk from the first instruction is a contract -/
theorem xCt_of {M : xM} {av : List Value} {σ : xS} {Q : Option Value → xS → Prop} (hy : plainName (xm_y M).cls = true) (hlen : (lg_sl av).length ≤ xm_n M) (h : xX M 0 (lv_args 0 av) [] σ Q) : xCt M av σ Q := by
  intro l B G sl
  refine Met.ofW (cc := xm_c M) (maxL := xm_n M) (ret := xm_r M) hy rfl ?_
  intro p e s m args below meth c s₁ Bd hml hv
  obtain ⟨rfl, ⟨hxr, hn, hm, hB1, hnm2⟩, hsl, hsl2, hK⟩ := hv
  have hts := atoms_spec (ws := xW M) Bd.pre
  rw [lg_entry_eq]
  have hl := lv_entry av (n := xm_n M) hlen
  generalize (lg_sl av ++ List.replicate (xm_n M - (lg_sl av).length) Slot.unset).toArray = ls at hl ⊢
  have hR : (headSpec (xW M) (xR B (xm_f M) (xm_l M) (xh_n σ) sl)).room = xR B (xm_f M) (xm_l M) s.heap.size (xtot s.heap) := by
    rw [hn, hsl]; rfl
  have hw := h l B G (xA σ) p e (headSpec (xW M) (xR B (xm_f M) (xm_l M) (xh_n σ) sl)).room s m av.toArray below meth c ⟨Bd.exec, Bd.bytes, Bd.returns, hml, findClass_of_methodNamed Bd.named, hts, hK, Bd.notSynchronized, (name_of_methodNamed Bd.named Bd.method).1, fun q hq => Or.inr (by rw [← hn]; exact hq), hR, by omega⟩
    s.heap [] 0 0 ⟨⟨hxr, hn, hm, hB1, hnm2⟩, va_S.rf, fun a ha => Or.inl ha, by omega, by omega⟩ ls hl
  exact hw
theorem xNw.warm {s U : State} (hW : s.WarmedH U.vm) (h : xNw s) : xNw U := ⟨⟨h.1.1.warmM hW, h.1.2.1.warmM hW, h.1.2.2.1.warmM hW, h.1.2.2.2.warmM hW⟩, fun t ht => (h.2 t ht).moved hW.alike⟩
theorem xNw.same {s U : State} (e : s.vm = U.vm) (h : xNw s) : xNw U := ⟨⟨h.1.1.same rfl e, h.1.2.1.same rfl e, h.1.2.2.1.same rfl e, h.1.2.2.2.same rfl e⟩, fun t ht => (h.2 t ht).moved (by rw [e]; exact Vm.Alike.refl _)⟩
theorem xP_blind {av : List Value} {B : Nat × Nat} {G : xG} {σ : xS} {sl : Nat} : FrameBlind (va_Pc av (xP B G σ sl)) := by
  intro a U g mk h
  obtain ⟨h0, h1, h2, h3, h4, h5⟩ := h
  exact ⟨h0, h1, h2, h3, va_K.moved (u := U) (U := U.calling g mk a) (Vm.Alike.refl U.vm) h4, xNw.same (s := U) (U := U.calling g mk a) rfl h5⟩
theorem xTb_good : ∀ w ∈ xTb, goodWord w = true := fun w h => (List.mem_filter.mp h).2
theorem xGood {M M2 : xM} (h : Cond.code (xm_y M2) (xm_c M2) (xm_n M2) (xm_r M2) ∈ xTb) : GoodIn (xW M) (xW M2) := by
  intro w hw
  rcases List.mem_cons.mp hw with rfl | hw
  · exact ⟨List.mem_cons_of_mem _ h, good_of_word (xTb_good _ h)⟩
  · exact ⟨List.mem_cons_of_mem _ hw, good_of_word (xTb_good _ hw)⟩
/-- a method that may be called: its words, its parameters' number -/
def xOk (M : xM) (n : Nat) : Prop := Cond.code (xm_y M) (xm_c M) (xm_n M) (xm_r M) ∈ xTb ∧ Cond.initialized (xm_y M).cls ∈ xTb ∧ ((xm_y M).cls ≠ "java/lang/invoke/MethodHandle" ∧ (xm_y M).cls ≠ "java/lang/invoke/VarHandle" ∧ (parseMethodDescriptor (xm_y M).desc).map (fun d => d.parameters.length) = some n)
/-- behind a call -/
theorem x_back {M M2 : xM} {pc : Nat} {lv : List (Nat × Value)} {st st0 av : List Value} {σ : xS} {Q Q2 : Option Value → xS → Prop}
    (hrun : ∀ (l : Launch) (B : Nat × Nat) (G : xG) (A : Nat → Prop) (p : Program) (e : Env) (R : Room) (s : State) (m : MethodId) (args : Array Value) (below : List Frame) (meth : Method) (c : Code), xC M B G A p R s m args meth c → ∀ (H : Heap) (locs : List Loc) (cells slots : Nat), xL B G A s σ H locs cells slots → xtot s.heap + slots = xtot H → ∀ (ls : Array Slot), lv_has ls (xm_n M) lv →
      va_Run p l e R s m args below meth c H locs cells slots (B.1 + 18000 - xh_n σ) (B.2 + 7200000 - xtot H) (F0 m pc ls st0) st (xQ B G (xA σ) Q2 av.toArray) (xA σ))
    (kk : ∀ (v : Option Value) (σ2 : xS), Q2 v σ2 → xX M (pc + 3) lv (v.toList ++ st) σ2 Q) : xX M pc lv st0 σ Q := by
  intro l B G A p e R s m args below meth c C H locs cells slots L ls hl
  have C0 := C
  obtain ⟨hx, hb, hr, hml, hown, hts, ⟨hK, hNw⟩, hlk, hnm, hA, hR, hB⟩ := C
  obtain ⟨⟨hxr, hn, hm, hB1, hnm2⟩, hS, hdom, hc1, hs1⟩ := L
  refine xw_used fun u1 u2 => ?_
  refine xw_tight (k := cells) (n := xtot H - xtot s.heap) (by omega) (by omega) ?_
  have L1 : xL B G A s σ H locs cells (xtot H - xtot s.heap) := ⟨⟨hxr, hn, hm, hB1, hnm2⟩, hS, hdom, hc1, by omega⟩
  have hr := hrun l B G A p e R s m args below meth c C0 H locs cells (xtot H - xtot s.heap) L1 (by omega) ls hl
  intro T hT X
  obtain ⟨v, st₀, t, T2, L2, h0, X2, hL, e1, e2, ⟨r, σ2, hv, hq, ⟨gxr, gn, gm, gB1, gnm2⟩, gt, gd, gF⟩, stp⟩ := hr T hT X
  cases hv
  have hAA : ∀ q, xA σ q → A q := by
    intro q h
    rcases h with h | h
    · exact hdom q h
    · exact hA q (by have := hS.1; omega)
  have gF1 := gF.1
  rw [h0] at gF1
  have hk := kk v σ2 hq l B G A p e R s m args below meth c C0 t.heap (locs ++ L2) (t.heap.size - s.heap.size) (xtot t.heap - xtot s.heap)
    ⟨⟨gxr, gn, gm, gB1, gnm2⟩, ⟨Nat.le_trans hS.1 gF1, fun q h1 h2 => ?_, fun q hq => ?_⟩, fun a ha => hAA a (gd a ha), by have := hS.1; omega, ?_⟩ ls hl
  · have hk2 : W p l e R s m args below meth c t.heap (locs ++ L2) (cells + (B.1 + 18000 - xh_n σ)) (xtot H - xtot s.heap + (B.2 + 7200000 - xtot H)) (MQ below (xQ B G A Q) args s R.cells R.slots A) (F0 m (pc + 3) ls (v.toList ++ st)) := by
      refine xw_used fun w1 w2 => ?_
      exact xw_tight (k := t.heap.size - s.heap.size) (n := xtot t.heap - xtot s.heap) (by omega) (by omega) hk
    obtain ⟨t2, a1, b1⟩ := hk2 T2 e1 X2
    exact ⟨t2, stp t2 a1, b1⟩
  · have h3 : t.heap[q]? = st₀.heap[q]? := gF.2 q (by rw [h0]; have := hS.1; omega) (fun z => h2 (hAA q z))
    rw [h3, h0]
    exact hS.2.1 q h1 h2
  · rcases List.mem_append.mp hq with h | h
    · exact hS.2.2 q h
    · exact hAA _ (hL q h)
  · have hs := xw_sums X2
    rw [e1] at hs
    omega

theorem x_callV {M M2 : xM} {pc : Nat} {lv : List (Nat × Value)} {st As : List Value} {σ : xS} {Q Q2 : Option Value → xS → Prop} {idx n : Nat} {b ci : Nat} (hci : ci < 8) (hb0 : xh_k σ b = ci + 1) (hcl : (xm_y M2).cls = xf_C ci) (w1 : Cond.methodLink (xm_y M).cls idx (xm_y M2) ∈ xTb) (w2 : Cond.instanceMethod (xm_y M2) ∈ xTb) (w3 : Cond.selects (xm_y M2).cls (xm_y M2) (xm_y M2) ∈ xTb) (hd : decode (xm_c M) pc = .ok (.invokevirtual idx, 3)) (hn1 : As.length = n) (hok : xOk M2 n) (hrm : xm_f M2 + 1 ≤ xm_f M ∧ 8 + (xm_n M2 + 11) + xm_l M2 ≤ xm_l M) (hst : (st.map fun v => v.category).sum ≤ 8) (ct : xCt M2 (.ref b :: As) σ Q2) (kk : ∀ (v : Option Value) (σ2 : xS), Q2 v σ2 → xX M (pc + 3) lv (v.toList ++ st) σ2 Q) : xX M pc lv (As.reverse ++ .ref b :: st) σ Q := by
  refine x_back (M2 := M2) (av := .ref b :: As) (Q2 := Q2) ?_ kk
  intro l B G A p e R s m args below meth c C H locs cells slots L htight ls hl
  obtain ⟨hx, hb, hr, hml, hown, hts, ⟨hK, hNw⟩, hlk, hnm, hA, hR, hB⟩ := C
  obtain ⟨⟨hxr, hn, hm, hB1, hnm2⟩, hS, hdom, hc1, hs1⟩ := L
  have hS1 := hS.1
  obtain ⟨cell, q1, q2, q3, -⟩ := hxr.1 b ci hb0 hci
  refine va_runV (C := (xm_y M2).cls) ⟨hx, hb, hml, hown, hts⟩ (ct l B G (xtot H)) ⟨callB_of n hts (xGood hok.1) rfl rfl rfl (hts _ (List.mem_cons_of_mem _ hok.2.1)) (hts _ (List.mem_cons_of_mem _ w1)) hok.2.2 (by rw [hR]; exact hrm), hts _ (List.mem_cons_of_mem _ w2), hts _ (List.mem_cons_of_mem _ w3)⟩ ⟨xP_blind, ⟨cell, q1, by rw [q3]; rfl, by rw [q2, hcl]; exact (hK.1 ci _ (xf_cl hci)).2.1⟩, fun U hU hW => ⟨rfl, ⟨by rw [hU]; exact hxr, by rw [hU]; exact hn, hm, hB1, hnm2⟩, by rw [hU], by omega, va_K.moved hW.alike hK, hNw.warm hW⟩⟩ rfl hn1 hl.1 rfl (lv_room hst) hd ⟨by rw [hR]; show cells + (B.1 + 18000 - xh_n σ) ≤ B.1 + 18000 - s.heap.size; omega, by rw [hR]; show slots + (B.2 + 7200000 - xtot H) ≤ B.2 + 7200000 - xtot s.heap; omega⟩
theorem x_callS {M M2 : xM} {pc : Nat} {lv : List (Nat × Value)} {st As : List Value} {σ : xS} {Q Q2 : Option Value → xS → Prop} {idx n : Nat} (w1 : Cond.methodLink (xm_y M).cls idx (xm_y M2) ∈ xTb) (w2 : Cond.static (xm_y M2) ∈ xTb) (hd : decode (xm_c M) pc = .ok (.invokestatic idx, 3)) (hn1 : As.length = n) (hok : xOk M2 n) (hrm : xm_f M2 + 1 ≤ xm_f M ∧ 8 + (xm_n M2 + 11) + xm_l M2 ≤ xm_l M) (hst : (st.map fun v => v.category).sum ≤ 8) (ct : xCt M2 (As) σ Q2) (kk : ∀ (v : Option Value) (σ2 : xS), Q2 v σ2 → xX M (pc + 3) lv (v.toList ++ st) σ2 Q) : xX M pc lv (As.reverse ++ st) σ Q := by
  refine x_back (M2 := M2) (av := As) (Q2 := Q2) ?_ kk
  intro l B G A p e R s m args below meth c C H locs cells slots L htight ls hl
  obtain ⟨hx, hb, hr, hml, hown, hts, ⟨hK, hNw⟩, hlk, hnm, hA, hR, hB⟩ := C
  obtain ⟨⟨hxr, hn, hm, hB1, hnm2⟩, hS, hdom, hc1, hs1⟩ := L
  have hS1 := hS.1
  exact va_runS ⟨hx, hb, hml, hown, hts⟩ (ct l B G (xtot H)) ⟨callB_of n hts (xGood hok.1) rfl rfl rfl (hts _ (List.mem_cons_of_mem _ hok.2.1)) (hts _ (List.mem_cons_of_mem _ w1)) hok.2.2 (by rw [hR]; exact hrm), hts _ (List.mem_cons_of_mem _ w2)⟩ ⟨xP_blind, fun U hU hW => ⟨rfl, ⟨by rw [hU]; exact hxr, by rw [hU]; exact hn, hm, hB1, hnm2⟩, by rw [hU], by omega, va_K.moved hW.alike hK, hNw.warm hW⟩⟩ rfl hn1 hl.1 rfl (lv_room hst) hd ⟨by rw [hR]; show cells + (B.1 + 18000 - xh_n σ) ≤ B.1 + 18000 - s.heap.size; omega, by rw [hR]; show slots + (B.2 + 7200000 - xtot H) ≤ B.2 + 7200000 - xtot s.heap; omega⟩
theorem x_callI {M M2 : xM} {pc : Nat} {lv : List (Nat × Value)} {st As : List Value} {σ : xS} {Q Q2 : Option Value → xS → Prop} {idx n : Nat} {b : Nat} (hrt : xm_r M2 = none) (hini : (xm_y M2).name = "<init>") (w1 : Cond.methodLink (xm_y M).cls idx (xm_y M2) ∈ xTb) (w2 : Cond.instanceMethod (xm_y M2) ∈ xTb) (hd : decode (xm_c M) pc = .ok (.invokespecial idx, 3)) (hn1 : As.length = n) (hok : xOk M2 n) (hrm : xm_f M2 + 1 ≤ xm_f M ∧ 8 + (xm_n M2 + 11) + xm_l M2 ≤ xm_l M) (hst : (st.map fun v => v.category).sum ≤ 8) (ct : xCt M2 (.ref b :: As) σ Q2) (kk : ∀ (v : Option Value) (σ2 : xS), Q2 v σ2 → xX M (pc + 3) lv (v.toList ++ st) σ2 Q) : xX M pc lv (As.reverse ++ .ref b :: st) σ Q := by
  refine x_back (M2 := M2) (av := .ref b :: As) (Q2 := Q2) ?_ kk
  intro l B G A p e R s m args below meth c C H locs cells slots L htight ls hl
  obtain ⟨hx, hb, hr, hml, hown, hts, ⟨hK, hNw⟩, hlk, hnm, hA, hR, hB⟩ := C
  obtain ⟨⟨hxr, hn, hm, hB1, hnm2⟩, hS, hdom, hc1, hs1⟩ := L
  have hS1 := hS.1
  exact va_runI ⟨hx, hb, hml, hown, hts⟩ (ct l B G (xtot H)) ⟨callB_of n hts (xGood hok.1) (by unfold xW; rw [hrt]) rfl rfl (hts _ (List.mem_cons_of_mem _ hok.2.1)) (hts _ (List.mem_cons_of_mem _ w1)) hok.2.2 (by rw [hR]; exact hrm), hini, hts _ (List.mem_cons_of_mem _ w2)⟩ ⟨xP_blind, fun U hU hW => ⟨rfl, ⟨by rw [hU]; exact hxr, by rw [hU]; exact hn, hm, hB1, hnm2⟩, by rw [hU], by omega, va_K.moved hW.alike hK, hNw.warm hW⟩⟩ rfl hn1 hl.1 rfl (lv_room hst) hd ⟨by rw [hR]; show cells + (B.1 + 18000 - xh_n σ) ≤ B.1 + 18000 - s.heap.size; omega, by rw [hR]; show slots + (B.2 + 7200000 - xtot H) ≤ B.2 + 7200000 - xtot s.heap; omega⟩
theorem x_callN {M M2 : xM} {pc : Nat} {lv : List (Nat × Value)} {st As : List Value} {σ : xS} {Q Q2 : Option Value → xS → Prop} {idx n : Nat} {b : Nat} {host : String} (hrt : xm_r M2 = none) (hini : (xm_y M2).name = "<init>") (w1 : ∀ U, xNw U → va_Nw (.methodLinkNest (xm_y M).cls idx (xm_y M2) host) U) (w2 : Cond.instanceMethod (xm_y M2) ∈ xTb) (hd : decode (xm_c M) pc = .ok (.invokespecial idx, 3)) (hn1 : As.length = n) (hok : xOk M2 n) (hrm : xm_f M2 + 1 ≤ xm_f M ∧ 8 + (xm_n M2 + 11) + xm_l M2 ≤ xm_l M) (hst : (st.map fun v => v.category).sum ≤ 8) (ct : xCt M2 (.ref b :: As) σ Q2) (kk : ∀ (v : Option Value) (σ2 : xS), Q2 v σ2 → xX M (pc + 3) lv (v.toList ++ st) σ2 Q) : xX M pc lv (As.reverse ++ .ref b :: st) σ Q := by
  refine x_back (M2 := M2) (av := .ref b :: As) (Q2 := Q2) ?_ kk
  intro l B G A p e R s m args below meth c C H locs cells slots L htight ls hl
  obtain ⟨hx, hb, hr, hml, hown, hts, ⟨hK, hNw⟩, hlk, hnm, hA, hR, hB⟩ := C
  obtain ⟨⟨hxr, hn, hm, hB1, hnm2⟩, hS, hdom, hc1, hs1⟩ := L
  have hS1 := hS.1
  exact va_runIN ⟨hx, hb, hml, hown, hts⟩ (ct l B G (xtot H)) ⟨va_cnB n hts (xGood hok.1) (by unfold xW; rw [hrt]) rfl rfl (w1 s hNw) (hts _ (List.mem_cons_of_mem _ hok.2.1)) hok.2.2 (by rw [hR]; exact hrm), hini, hts _ (List.mem_cons_of_mem _ w2)⟩ ⟨xP_blind, fun U hU hW => ⟨rfl, ⟨by rw [hU]; exact hxr, by rw [hU]; exact hn, hm, hB1, hnm2⟩, by rw [hU], by omega, va_K.moved hW.alike hK, hNw.warm hW⟩⟩ rfl hn1 hl.1 rfl (lv_room hst) hd ⟨by rw [hR]; show cells + (B.1 + 18000 - xh_n σ) ≤ B.1 + 18000 - s.heap.size; omega, by rw [hR]; show slots + (B.2 + 7200000 - xtot H) ≤ B.2 + 7200000 - xtot s.heap; omega⟩
theorem x_objInit {M : xM} {pc : Nat} {lv : List (Nat × Value)} {st : List Value} {σ : xS} {Q : Option Value → xS → Prop} {idx a : Nat} (hd : decode (xm_c M) pc = .ok (.invokespecial idx, 3)) (w1 : Cond.methodLink (xm_y M).cls idx Lib.objectInit ∈ xTb) (w2 : Cond.instanceMethod Lib.objectInit ∈ xTb) (w3 : Cond.code Lib.objectInit ⟨#[0xb1]⟩ 1 none ∈ xTb) (hf : 1 ≤ xm_f M) (hst : (st.map fun v => v.category).sum ≤ 8) (hlo : 20 ≤ xm_l M) (kk : xX M (pc + 3) lv st σ Q) : xX M pc lv (.ref a :: st) σ Q := by
  intro l B G A p e R s m args below meth c C H locs cells slots L ls hl
  have C0 := C
  obtain ⟨hx, hb, hr, hml, hown, hts, ⟨hK, hNw⟩, hlk, hnm, hA, hR, hB⟩ := C
  have L0 := L
  obtain ⟨⟨hxr, hn, hm, hB1, hnm2⟩, hS, hdom, hc1, hs1⟩ := L
  have h8 : 2 * (F0 m pc ls (Value.ref a :: st)).monitorRoom + (st.map fun v => v.category).sum ≤ 8 := lv_room hst
  refine W.objInit hx hb hown (hts _ (List.mem_cons_of_mem _ w1)) (hts _ (List.mem_cons_of_mem _ w2)) (hts _ (List.mem_cons_of_mem _ w3)) rfl (by rw [hml]; exact hl.1) rfl hd (by rw [hR]; exact hf) (by rw [hR]; show _ ≤ xm_l M; omega) (kk l B G A p e R s m args below meth c C0 H locs cells slots L0 ls hl)
-- the ends of contracts, by the sort of the answer
def xqV (Q : xS → Prop) : Option Value → xS → Prop := fun v σ => v = none ∧ Q σ
def xqI (Q : Int32 → xS → Prop) : Option Value → xS → Prop := fun v σ => ∃ x : Int32, v = some (.int x) ∧ Q x σ
def xqL (Q : Int64 → xS → Prop) : Option Value → xS → Prop := fun v σ => ∃ x : Int64, v = some (.long x) ∧ Q x σ
def xqR (Q : Option Nat → xS → Prop) : Option Value → xS → Prop := fun v σ => ∃ r : Option Nat, v = some (va_rf r) ∧ Q r σ
theorem xqV.k {M : xM} {pc : Nat} {lv : List (Nat × Value)} {st : List Value} {Q2 : xS → Prop} {Q : Option Value → xS → Prop} (h : ∀ σ2, Q2 σ2 → xX M pc lv st σ2 Q) : ∀ (v : Option Value) (σ2 : xS), xqV Q2 v σ2 → xX M pc lv (v.toList ++ st) σ2 Q := fun v σ2 ⟨e, h2⟩ => by subst e; exact h σ2 h2
theorem xqI.k {M : xM} {pc : Nat} {lv : List (Nat × Value)} {st : List Value} {Q2 : Int32 → xS → Prop} {Q : Option Value → xS → Prop} (h : ∀ x σ2, Q2 x σ2 → xX M pc lv (.int x :: st) σ2 Q) : ∀ (v : Option Value) (σ2 : xS), xqI Q2 v σ2 → xX M pc lv (v.toList ++ st) σ2 Q := fun v σ2 ⟨x, e, h2⟩ => by subst e; exact h x σ2 h2
theorem xqL.k {M : xM} {pc : Nat} {lv : List (Nat × Value)} {st : List Value} {Q2 : Int64 → xS → Prop} {Q : Option Value → xS → Prop} (h : ∀ x σ2, Q2 x σ2 → xX M pc lv (.long x :: st) σ2 Q) : ∀ (v : Option Value) (σ2 : xS), xqL Q2 v σ2 → xX M pc lv (v.toList ++ st) σ2 Q := fun v σ2 ⟨x, e, h2⟩ => by subst e; exact h x σ2 h2
theorem xqR.k {M : xM} {pc : Nat} {lv : List (Nat × Value)} {st : List Value} {Q2 : Option Nat → xS → Prop} {Q : Option Value → xS → Prop} (h : ∀ x σ2, Q2 x σ2 → xX M pc lv (va_rf x :: st) σ2 Q) : ∀ (v : Option Value) (σ2 : xS), xqR Q2 v σ2 → xX M pc lv (v.toList ++ st) σ2 Q := fun v σ2 ⟨x, e, h2⟩ => by subst e; exact h x σ2 h2
end
section
theorem xTb_of {w : Cond} (i : Nat) (h : tables_1[i]? = some w) (hg : goodWord w = true) : w ∈ xTb := List.mem_filter.mpr ⟨List.mem_append_right _ (List.mem_of_getElem? h), hg⟩
theorem xTb_ofS {w : Cond} (i : Nat) (h : (k2_sels lw_privs)[i]? = some w) (hg : goodWord w = true) : w ∈ xTb := List.mem_filter.mpr ⟨List.mem_append_left _ (List.mem_of_getElem? h), hg⟩
theorem pn_X0 : plainName RX0 = true := by decide +kernel
theorem pn_X1 : plainName RX1 = true := by decide +kernel
theorem pn_X2 : plainName RX2 = true := by decide +kernel
theorem pn_X3 : plainName RX3 = true := by decide +kernel
theorem pn_X4 : plainName RX4 = true := by decide +kernel
theorem pn_X5 : plainName RX5 = true := by decide +kernel
theorem pn_X6 : plainName RX6 = true := by decide +kernel
theorem pn_X7 : plainName RX7 = true := by decide +kernel
theorem pn_L : plainName RL = true := by decide +kernel
theorem xCt_ofL {M : xM} {av : List Value} {lv : List (Nat × Value)} {σ : xS} {Q : Option Value → xS → Prop} (hy : plainName (xm_y M).cls = true) (hlen : (lg_sl av).length ≤ xm_n M) (hlv : lv_args 0 av = lv) (h : xX M 0 lv [] σ Q) : xCt M av σ Q := xCt_of hy hlen (by rw [hlv]; exact h)
theorem x_sub {M : xM} {pc : Nat} {lv : List (Nat × Value)} {st : List Value} {σ : xS} {Q : Option Value → xS → Prop} {lv2 : List (Nat × Value)} (ks : List Nat) (h : lv_pick lv ks = lv2) (k : xX M pc lv2 st σ Q) : xX M pc lv st σ Q := fun l B G A p e R s m args below meth c C H locs cells slots L ls hl => k l B G A p e R s m args below meth c C H locs cells slots L ls (lv_sub hl ks h)
theorem x_lvS {M : xM} {pc : Nat} {lv : List (Nat × Value)} {st : List Value} {σ : xS} {Q : Option Value → xS → Prop} {lv2 : List (Nat × Value)} {i a : Nat} {r : Option Nat} (j : Nat) (hj : lv[j]? = some (i, va_rf r)) (hr : r = some a) (hs : lv.set j (i, .ref a) = lv2) (k : xX M pc lv2 st σ Q) : xX M pc lv st σ Q := by
  subst hr
  have hlt := (List.getElem?_eq_some_iff.mp hj).1
  have hg := (List.getElem?_eq_some_iff.mp hj).2
  have : lv2 = lv := by
    rw [← hs]
    have h2 : lv[j] = (i, Value.ref a) := hg
    rw [← h2]
    exact List.set_getElem_self hlt
  rw [← this]
  exact k
theorem x_fresh {M : xM} {pc : Nat} {lv : List (Nat × Value)} {st : List Value} {σ : xS} {Q : Option Value → xS → Prop} (k : (∀ b, xh_k σ b ≠ 0 → b < xh_n σ) → xX M pc lv st σ Q) : xX M pc lv st σ Q := fun l B G A p e R s m args below meth c C H locs cells slots L ls hl => k (fun b hb => by rw [← L.1.2.1]; exact L.1.1.2.2.2.2 b hb) l B G A p e R s m args below meth c C H locs cells slots L ls hl
theorem x_putIN {M : xM} {pc : Nat} {lv : List (Nat × Value)} {st : List Value} {σ : xS} {Q : Option Value → xS → Prop} {idx ci k a f : Nat} {x : Int32} (hd : decode (xm_c M) pc = .ok (.putfield idx, 3)) (hw : Cond.fieldLink (xm_y M).cls idx (xf_C ci) (xf_T ci k).2.1 (xf_T ci k).2.2.1 ∈ xTb) (hci : ci < 8) (hk : k < xf_N ci) (ha : xh_k σ a = ci + 1) (hfin : (xf_T ci k).2.2.2 = false ∨ ((xf_T ci k).2.2.2 = true ∧ (xm_y M).name = "<init>" ∧ xf_C ci = (xm_y M).cls)) (hf : f = 64 * ci + k) (hs : xf_ty ci k = .int ∨ (xf_ty ci k = .boolean ∧ (x = 0 ∨ x = 1))) (kk : ∀ σ2, σ2 = xs_I σ f a x → xX M (pc + 3) lv st σ2 Q) : xX M pc lv (.int x :: .ref a :: st) σ Q := x_putI hd hw hci hk ha hfin hf hs (kk _ rfl)
theorem x_putLN {M : xM} {pc : Nat} {lv : List (Nat × Value)} {st : List Value} {σ : xS} {Q : Option Value → xS → Prop} {idx ci k a f : Nat} {x : Int64} (hd : decode (xm_c M) pc = .ok (.putfield idx, 3)) (hw : Cond.fieldLink (xm_y M).cls idx (xf_C ci) (xf_T ci k).2.1 (xf_T ci k).2.2.1 ∈ xTb) (hci : ci < 8) (hk : k < xf_N ci) (ha : xh_k σ a = ci + 1) (hfin : (xf_T ci k).2.2.2 = false ∨ ((xf_T ci k).2.2.2 = true ∧ (xm_y M).name = "<init>" ∧ xf_C ci = (xm_y M).cls)) (hf : f = 64 * ci + k) (hs : xf_ty ci k = .long) (kk : ∀ σ2, σ2 = xs_L σ f a x → xX M (pc + 3) lv st σ2 Q) : xX M pc lv (.long x :: .ref a :: st) σ Q := x_putL hd hw hci hk ha hfin hf hs (kk _ rfl)
theorem x_putRN {M : xM} {pc : Nat} {lv : List (Nat × Value)} {st : List Value} {σ : xS} {Q : Option Value → xS → Prop} {idx ci k a f : Nat} {r : Option Nat} (hd : decode (xm_c M) pc = .ok (.putfield idx, 3)) (hw : Cond.fieldLink (xm_y M).cls idx (xf_C ci) (xf_T ci k).2.1 (xf_T ci k).2.2.1 ∈ xTb) (hci : ci < 8) (hk : k < xf_N ci) (ha : xh_k σ a = ci + 1) (hfin : (xf_T ci k).2.2.2 = false ∨ ((xf_T ci k).2.2.2 = true ∧ (xm_y M).name = "<init>" ∧ xf_C ci = (xm_y M).cls)) (hf : f = 64 * ci + k) (hs : xf_s (xf_ty ci k) = 1) (kk : ∀ σ2, σ2 = xs_R σ f a r → xX M (pc + 3) lv st σ2 Q) : xX M pc lv (va_rf r :: .ref a :: st) σ Q := x_putR hd hw hci hk ha hfin hf hs (kk _ rfl)
theorem x_ialdZ {M : xM} {pc : Nat} {lv : List (Nat × Value)} {st : List Value} {σ : xS} {Q : Option Value → xS → Prop} {a n : Nat} {i : Int32} (hd : decode (xm_c M) pc = .ok (.iaload, 1)) (ha : xh_k σ a = 9) (hz : xh_z σ a = n) (hin : vp_in i n) (kk : xX M (pc + 1) lv (.int (xh_a σ a i.toNatClampNeg) :: st) σ Q) : xX M pc lv (.int i :: .ref a :: st) σ Q := x_iald hd ha (by rw [hz]; exact hin) kk
theorem x_zaldZ {M : xM} {pc : Nat} {lv : List (Nat × Value)} {st : List Value} {σ : xS} {Q : Option Value → xS → Prop} {a n : Nat} {i : Int32} (hd : decode (xm_c M) pc = .ok (.baload, 1)) (ha : xh_k σ a = 10) (hz : xh_z σ a = n) (hin : vp_in i n) (kk : xX M (pc + 1) lv (.int (xh_a σ a i.toNatClampNeg) :: st) σ Q) : xX M pc lv (.int i :: .ref a :: st) σ Q := x_zald hd ha (by rw [hz]; exact hin) kk
theorem x_aaldZ {M : xM} {pc : Nat} {lv : List (Nat × Value)} {st : List Value} {σ : xS} {Q : Option Value → xS → Prop} {a t n : Nat} {i : Int32} (hd : decode (xm_c M) pc = .ok (.aaload, 1)) (ha : xh_k σ a = t + 11) (ht : t < 4) (hz : xh_z σ a = n) (hin : vp_in i n) (kk : xX M (pc + 1) lv (va_rf (xh_q σ a i.toNatClampNeg) :: st) σ Q) : xX M pc lv (.int i :: .ref a :: st) σ Q := x_aald hd ha ht (by rw [hz]; exact hin) kk
theorem x_alenZ {M : xM} {pc : Nat} {lv : List (Nat × Value)} {st : List Value} {σ : xS} {Q : Option Value → xS → Prop} {a t n : Nat} {v : Int32} (hd : decode (xm_c M) pc = .ok (.arraylength, 1)) (ha : xh_k σ a = t + 9) (ht : t < 6) (hz : xh_z σ a = n) (hv : Int32.ofNat n = v) (kk : xX M (pc + 1) lv (.int v :: st) σ Q) : xX M pc lv (.ref a :: st) σ Q := x_alen hd ha ht (by rw [hz, hv]; exact kk)
theorem x_iastN {M : xM} {pc : Nat} {lv : List (Nat × Value)} {st : List Value} {σ : xS} {Q : Option Value → xS → Prop} {a n : Nat} {i x : Int32} (hd : decode (xm_c M) pc = .ok (.iastore, 1)) (ha : xh_k σ a = 9) (hz : xh_z σ a = n) (hin : vp_in i n) (kk : ∀ σ2, σ2 = xs_a σ a i.toNatClampNeg x → xX M (pc + 1) lv st σ2 Q) : xX M pc lv (.int x :: .int i :: .ref a :: st) σ Q := x_iast hd ha (by rw [hz]; exact hin) (kk _ rfl)
theorem x_zastN {M : xM} {pc : Nat} {lv : List (Nat × Value)} {st : List Value} {σ : xS} {Q : Option Value → xS → Prop} {a n : Nat} {i x : Int32} (hd : decode (xm_c M) pc = .ok (.bastore, 1)) (ha : xh_k σ a = 10) (hz : xh_z σ a = n) (hin : vp_in i n) (hx : x = 0 ∨ x = 1) (kk : ∀ σ2, σ2 = xs_a σ a i.toNatClampNeg x → xX M (pc + 1) lv st σ2 Q) : xX M pc lv (.int x :: .int i :: .ref a :: st) σ Q := x_zast hd ha (by rw [hz]; exact hin) hx (kk _ rfl)
theorem x_aastN {M : xM} {pc : Nat} {lv : List (Nat × Value)} {st : List Value} {σ : xS} {Q : Option Value → xS → Prop} {a t v n : Nat} {i : Int32} (hd : decode (xm_c M) pc = .ok (.aastore, 1)) (ha : xh_k σ a = t + 11) (ht : t < 4) (hv : xh_k σ v = xa_c t + 1) (hz : xh_z σ a = n) (hin : vp_in i n) (kk : ∀ σ2, σ2 = xs_q σ a i.toNatClampNeg (some v) → xX M (pc + 1) lv st σ2 Q) : xX M pc lv (.ref v :: .int i :: .ref a :: st) σ Q := x_aast hd ha ht hv (by rw [hz]; exact hin) (kk _ rfl)
theorem x_newN {M : xM} {pc : Nat} {lv : List (Nat × Value)} {st : List Value} {σ : xS} {Q : Option Value → xS → Prop} {idx ci : Nat} (hd : decode (xm_c M) pc = .ok (.new idx, 3)) (hci : ci < 8) (h1 : Cond.classLink (xm_y M).cls idx (xf_C ci) ∈ xTb) (h2 : Cond.instantiable (xf_C ci) (xf_N ci) ∈ xTb) (h3 : Cond.initialized (xf_C ci) ∈ xTb) (hroom : xh_n σ < xh_m σ) (kk : ∀ σ2, σ2 = xs_new σ ci → xX M (pc + 3) lv (.ref (xh_n σ) :: st) σ2 Q) : xX M pc lv st σ Q := x_new hd hci h1 h2 h3 hroom (kk _ rfl)
theorem x_newIN {M : xM} {pc : Nat} {lv : List (Nat × Value)} {st : List Value} {σ : xS} {Q : Option Value → xS → Prop} {n : Int32} {c : Nat} (hd : decode (xm_c M) pc = .ok (.newarray .int, 2)) (h1 : Cond.arrayClass .int ∈ xTb) (hroom : xh_n σ < xh_m σ) (hn0 : ¬ n < 0) (hc : n.toNatClampNeg = c) (hn4 : c ≤ 400) (kk : ∀ σ2, σ2 = xs_arr σ 9 c → xX M (pc + 2) lv (.ref (xh_n σ) :: st) σ2 Q) : xX M pc lv (.int n :: st) σ Q := x_newI hd h1 hroom hn0 (by rw [hc]; exact hn4) (by rw [hc]; exact kk _ rfl)
theorem x_newZN {M : xM} {pc : Nat} {lv : List (Nat × Value)} {st : List Value} {σ : xS} {Q : Option Value → xS → Prop} {n : Int32} {c : Nat} (hd : decode (xm_c M) pc = .ok (.newarray .boolean, 2)) (h1 : Cond.arrayClass .boolean ∈ xTb) (hroom : xh_n σ < xh_m σ) (hn0 : ¬ n < 0) (hc : n.toNatClampNeg = c) (hn4 : c ≤ 400) (kk : ∀ σ2, σ2 = xs_arr σ 10 c → xX M (pc + 2) lv (.ref (xh_n σ) :: st) σ2 Q) : xX M pc lv (.int n :: st) σ Q := x_newZ hd h1 hroom hn0 (by rw [hc]; exact hn4) (by rw [hc]; exact kk _ rfl)
theorem x_newQN {M : xM} {pc : Nat} {lv : List (Nat × Value)} {st : List Value} {σ : xS} {Q : Option Value → xS → Prop} {n : Int32} {idx t0 c : Nat} (hd : decode (xm_c M) pc = .ok (.anewarray idx, 3)) (ht0 : t0 < 4) (h1 : Cond.classLink (xm_y M).cls idx (xf_C (xa_c t0)) ∈ xTb) (hroom : xh_n σ < xh_m σ) (hn0 : ¬ n < 0) (hc : n.toNatClampNeg = c) (hn4 : c ≤ 400) (kk : ∀ σ2, σ2 = xs_arr σ (t0 + 11) c → xX M (pc + 3) lv (.ref (xh_n σ) :: st) σ2 Q) : xX M pc lv (.int n :: st) σ Q := x_newQ hd ht0 h1 hroom hn0 (by rw [hc]; exact hn4) (by rw [hc]; exact kk _ rfl)
theorem xk_I {σ σ2 : xS} {f a b k : Nat} {v : Int32} (e : σ2 = xs_I σ f a v) (h : xh_k σ b = k) : xh_k σ2 b = k := by subst e; exact h
theorem xk_R {σ σ2 : xS} {f a b k : Nat} {v : Option Nat} (e : σ2 = xs_R σ f a v) (h : xh_k σ b = k) : xh_k σ2 b = k := by subst e; exact h
theorem xk_L {σ σ2 : xS} {f a b k : Nat} {v : Int64} (e : σ2 = xs_L σ f a v) (h : xh_k σ b = k) : xh_k σ2 b = k := by subst e; exact h
theorem xk_a {σ σ2 : xS} {f a b k : Nat} {v : Int32} (e : σ2 = xs_a σ f a v) (h : xh_k σ b = k) : xh_k σ2 b = k := by subst e; exact h
theorem xk_q {σ σ2 : xS} {f a b k : Nat} {v : Option Nat} (e : σ2 = xs_q σ f a v) (h : xh_k σ b = k) : xh_k σ2 b = k := by subst e; exact h
theorem xk_new {σ σ2 : xS} {ci b k : Nat} (hf : ∀ b, xh_k σ b ≠ 0 → b < xh_n σ) (e : σ2 = xs_new σ ci) (h : xh_k σ b = k + 1) : xh_k σ2 b = k + 1 := by
  subst e
  have hb : b ≠ xh_n σ := fun z => by have := hf b (by omega); omega
  show va_up (xh_k σ) (xh_n σ) (ci + 1) b = _
  simp [va_up, hb, h]
theorem xk_arr {σ σ2 : xS} {kd n b k : Nat} (hf : ∀ b, xh_k σ b ≠ 0 → b < xh_n σ) (e : σ2 = xs_arr σ kd n) (h : xh_k σ b = k + 1) : xh_k σ2 b = k + 1 := by
  subst e
  have hb : b ≠ xh_n σ := fun z => by have := hf b (by omega); omega
  show va_up (xh_k σ) (xh_n σ) kd b = _
  simp [va_up, hb, h]
theorem xk_self {σ σ2 : xS} {ci : Nat} (e : σ2 = xs_new σ ci) : xh_k σ2 (xh_n σ) = ci + 1 := by
  subst e
  show va_up (xh_k σ) (xh_n σ) (ci + 1) (xh_n σ) = _
  simp [va_up]
theorem xk_selfA {σ σ2 : xS} {kd n : Nat} (e : σ2 = xs_arr σ kd n) : xh_k σ2 (xh_n σ) = kd := by
  subst e
  show va_up (xh_k σ) (xh_n σ) kd (xh_n σ) = _
  simp [va_up]
def xw6 (σ : xS) (a : Nat) : Prop := xh_k σ a = 7 ∧ (xh_R σ 384 a = some (a + 1) ∧ xh_k σ (a + 1) = 11 ∧ xh_z σ (a + 1) = 40) ∧ (xh_R σ 385 a = some (a + 2) ∧ xh_k σ (a + 2) = 12 ∧ xh_z σ (a + 2) = 100) ∧ (xh_R σ 386 a = some (a + 3) ∧ xh_k σ (a + 3) = 13 ∧ xh_z σ (a + 3) = 40) ∧ (xh_R σ 387 a = some (a + 4) ∧ xh_k σ (a + 4) = 14 ∧ xh_z σ (a + 4) = 16) ∧ (xh_R σ 388 a = some (a + 5) ∧ xh_k σ (a + 5) = 1 ∧ True)
theorem w6r_1 {σ : xS} {a : Nat} (h : xw6 σ a) : xh_R σ 384 a = some (a + 1) := h.2.1.1
theorem w6k_1 {σ : xS} {a : Nat} (h : xw6 σ a) : xh_k σ (a + 1) = 11 := h.2.1.2.1
theorem w6z_1 {σ : xS} {a : Nat} (h : xw6 σ a) : xh_z σ (a + 1) = 40 := h.2.1.2.2
theorem w6r_2 {σ : xS} {a : Nat} (h : xw6 σ a) : xh_R σ 385 a = some (a + 2) := h.2.2.1.1
theorem w6k_2 {σ : xS} {a : Nat} (h : xw6 σ a) : xh_k σ (a + 2) = 12 := h.2.2.1.2.1
theorem w6z_2 {σ : xS} {a : Nat} (h : xw6 σ a) : xh_z σ (a + 2) = 100 := h.2.2.1.2.2
theorem w6r_3 {σ : xS} {a : Nat} (h : xw6 σ a) : xh_R σ 386 a = some (a + 3) := h.2.2.2.1.1
theorem w6k_3 {σ : xS} {a : Nat} (h : xw6 σ a) : xh_k σ (a + 3) = 13 := h.2.2.2.1.2.1
theorem w6z_3 {σ : xS} {a : Nat} (h : xw6 σ a) : xh_z σ (a + 3) = 40 := h.2.2.2.1.2.2
theorem w6r_4 {σ : xS} {a : Nat} (h : xw6 σ a) : xh_R σ 387 a = some (a + 4) := h.2.2.2.2.1.1
theorem w6k_4 {σ : xS} {a : Nat} (h : xw6 σ a) : xh_k σ (a + 4) = 14 := h.2.2.2.2.1.2.1
theorem w6z_4 {σ : xS} {a : Nat} (h : xw6 σ a) : xh_z σ (a + 4) = 16 := h.2.2.2.2.1.2.2
theorem w6r_5 {σ : xS} {a : Nat} (h : xw6 σ a) : xh_R σ 388 a = some (a + 5) := h.2.2.2.2.2.1
theorem w6k_5 {σ : xS} {a : Nat} (h : xw6 σ a) : xh_k σ (a + 5) = 1 := h.2.2.2.2.2.2.1
theorem xw6_I {σ σ2 : xS} {f a b : Nat} {v : Int32} (e : σ2 = xs_I σ f b v) (h : xw6 σ a) : xw6 σ2 a := by subst e; exact h
theorem xw6_L {σ σ2 : xS} {f a b : Nat} {v : Int64} (e : σ2 = xs_L σ f b v) (h : xw6 σ a) : xw6 σ2 a := by subst e; exact h
theorem xw6_a {σ σ2 : xS} {f a b : Nat} {v : Int32} (e : σ2 = xs_a σ f b v) (h : xw6 σ a) : xw6 σ2 a := by subst e; exact h
theorem xw6_q {σ σ2 : xS} {f a b : Nat} {v : Option Nat} (e : σ2 = xs_q σ f b v) (h : xw6 σ a) : xw6 σ2 a := by subst e; exact h
theorem xw6_R {σ σ2 : xS} {f a b : Nat} {v : Option Nat} (hf : f < 384) (e : σ2 = xs_R σ f b v) (h : xw6 σ a) : xw6 σ2 a := by
  subst e
  have hr : ∀ g, 384 ≤ g → xh_R (xs_R σ f b v) g a = xh_R σ g a := fun g hg => by
    show xu_2 (xh_R σ) f b v g a = _
    unfold xu_2
    rw [if_neg (fun z => by omega)]
  unfold xw6
  rw [hr 384 (by omega), hr 385 (by omega), hr 386 (by omega), hr 387 (by omega), hr 388 (by omega)]
  exact h
theorem xw6_new {σ σ2 : xS} {ci a : Nat} (hf : ∀ b, xh_k σ b ≠ 0 → b < xh_n σ) (e : σ2 = xs_new σ ci) (h : xw6 σ a) : xw6 σ2 a := by
  have ha : a ≠ xh_n σ := fun z => by have := hf a (by rw [h.1]; decide); omega
  have hr : ∀ g, xh_R σ2 g a = xh_R σ g a := fun g => by
    subst e
    show (if a = xh_n σ then none else _) = _
    rw [if_neg ha]
  have hz : xh_z σ2 = xh_z σ := by subst e; rfl
  unfold xw6
  rw [hr 384, hr 385, hr 386, hr 387, hr 388, hz]
  exact ⟨xk_new hf e h.1, ⟨w6r_1 h, xk_new hf e (w6k_1 h), w6z_1 h⟩, ⟨w6r_2 h, xk_new hf e (w6k_2 h), w6z_2 h⟩, ⟨w6r_3 h, xk_new hf e (w6k_3 h), w6z_3 h⟩, ⟨w6r_4 h, xk_new hf e (w6k_4 h), w6z_4 h⟩, ⟨w6r_5 h, xk_new hf e (w6k_5 h), trivial⟩⟩
def xw7 (σ : xS) (a : Nat) : Prop := xh_k σ a = 8 ∧ (xh_R σ 449 a = some (a + 1) ∧ xh_k σ (a + 1) = 9 ∧ xh_z σ (a + 1) = 40) ∧ (xh_R σ 450 a = some (a + 2) ∧ xh_k σ (a + 2) = 9 ∧ xh_z σ (a + 2) = 40) ∧ (xh_R σ 451 a = some (a + 3) ∧ xh_k σ (a + 3) = 9 ∧ xh_z σ (a + 3) = 40) ∧ (xh_R σ 452 a = some (a + 4) ∧ xh_k σ (a + 4) = 9 ∧ xh_z σ (a + 4) = 40) ∧ (xh_R σ 453 a = some (a + 5) ∧ xh_k σ (a + 5) = 9 ∧ xh_z σ (a + 5) = 40) ∧ (xh_R σ 454 a = some (a + 6) ∧ xh_k σ (a + 6) = 10 ∧ xh_z σ (a + 6) = 40) ∧ (xh_R σ 455 a = some (a + 7) ∧ xh_k σ (a + 7) = 10 ∧ xh_z σ (a + 7) = 40) ∧ (xh_R σ 456 a = some (a + 8) ∧ xh_k σ (a + 8) = 9 ∧ xh_z σ (a + 8) = 40) ∧ (xh_R σ 458 a = some (a + 9) ∧ xh_k σ (a + 9) = 9 ∧ xh_z σ (a + 9) = 100) ∧ (xh_R σ 459 a = some (a + 10) ∧ xh_k σ (a + 10) = 9 ∧ xh_z σ (a + 10) = 100) ∧ (xh_R σ 460 a = some (a + 11) ∧ xh_k σ (a + 11) = 9 ∧ xh_z σ (a + 11) = 100) ∧ (xh_R σ 461 a = some (a + 12) ∧ xh_k σ (a + 12) = 9 ∧ xh_z σ (a + 12) = 100) ∧ (xh_R σ 462 a = some (a + 13) ∧ xh_k σ (a + 13) = 9 ∧ xh_z σ (a + 13) = 100) ∧ (xh_R σ 463 a = some (a + 14) ∧ xh_k σ (a + 14) = 9 ∧ xh_z σ (a + 14) = 100) ∧ (xh_R σ 464 a = some (a + 15) ∧ xh_k σ (a + 15) = 9 ∧ xh_z σ (a + 15) = 100) ∧ (xh_R σ 465 a = some (a + 16) ∧ xh_k σ (a + 16) = 9 ∧ xh_z σ (a + 16) = 100) ∧ (xh_R σ 466 a = some (a + 17) ∧ xh_k σ (a + 17) = 9 ∧ xh_z σ (a + 17) = 100) ∧ (xh_R σ 467 a = some (a + 18) ∧ xh_k σ (a + 18) = 9 ∧ xh_z σ (a + 18) = 100) ∧ (xh_R σ 468 a = some (a + 19) ∧ xh_k σ (a + 19) = 9 ∧ xh_z σ (a + 19) = 100) ∧ (xh_R σ 469 a = some (a + 20) ∧ xh_k σ (a + 20) = 9 ∧ xh_z σ (a + 20) = 100) ∧ (xh_R σ 470 a = some (a + 21) ∧ xh_k σ (a + 21) = 9 ∧ xh_z σ (a + 21) = 100) ∧ (xh_R σ 471 a = some (a + 22) ∧ xh_k σ (a + 22) = 9 ∧ xh_z σ (a + 22) = 100) ∧ (xh_R σ 474 a = some (a + 23) ∧ xh_k σ (a + 23) = 9 ∧ xh_z σ (a + 23) = 40) ∧ (xh_R σ 475 a = some (a + 24) ∧ xh_k σ (a + 24) = 9 ∧ xh_z σ (a + 24) = 40) ∧ (xh_R σ 476 a = some (a + 25) ∧ xh_k σ (a + 25) = 9 ∧ xh_z σ (a + 25) = 40) ∧ (xh_R σ 477 a = some (a + 26) ∧ xh_k σ (a + 26) = 10 ∧ xh_z σ (a + 26) = 40) ∧ (xh_R σ 479 a = some (a + 27) ∧ xh_k σ (a + 27) = 9 ∧ xh_z σ (a + 27) = 400) ∧ (xh_R σ 480 a = some (a + 28) ∧ xh_k σ (a + 28) = 9 ∧ xh_z σ (a + 28) = 400) ∧ (xh_R σ 481 a = some (a + 29) ∧ xh_k σ (a + 29) = 9 ∧ xh_z σ (a + 29) = 400) ∧ (xh_R σ 482 a = some (a + 30) ∧ xh_k σ (a + 30) = 9 ∧ xh_z σ (a + 30) = 400) ∧ (xh_R σ 483 a = some (a + 31) ∧ xh_k σ (a + 31) = 9 ∧ xh_z σ (a + 31) = 400) ∧ (xh_R σ 484 a = some (a + 32) ∧ xh_k σ (a + 32) = 9 ∧ xh_z σ (a + 32) = 400) ∧ (xh_R σ 485 a = some (a + 33) ∧ xh_k σ (a + 33) = 9 ∧ xh_z σ (a + 33) = 400) ∧ (xh_R σ 486 a = some (a + 34) ∧ xh_k σ (a + 34) = 9 ∧ xh_z σ (a + 34) = 400) ∧ (xh_R σ 487 a = some (a + 35) ∧ xh_k σ (a + 35) = 10 ∧ xh_z σ (a + 35) = 400) ∧ (xh_R σ 488 a = some (a + 36) ∧ xh_k σ (a + 36) = 10 ∧ xh_z σ (a + 36) = 16) ∧ (xh_R σ 490 a = some (a + 37) ∧ xh_k σ (a + 37) = 9 ∧ xh_z σ (a + 37) = 400) ∧ (xh_R σ 491 a = some (a + 38) ∧ xh_k σ (a + 38) = 9 ∧ xh_z σ (a + 38) = 400) ∧ (xh_R σ 492 a = some (a + 39) ∧ xh_k σ (a + 39) = 9 ∧ xh_z σ (a + 39) = 400)
theorem w7r_1 {σ : xS} {a : Nat} (h : xw7 σ a) : xh_R σ 449 a = some (a + 1) := h.2.1.1
theorem w7k_1 {σ : xS} {a : Nat} (h : xw7 σ a) : xh_k σ (a + 1) = 9 := h.2.1.2.1
theorem w7z_1 {σ : xS} {a : Nat} (h : xw7 σ a) : xh_z σ (a + 1) = 40 := h.2.1.2.2
theorem w7r_2 {σ : xS} {a : Nat} (h : xw7 σ a) : xh_R σ 450 a = some (a + 2) := h.2.2.1.1
theorem w7k_2 {σ : xS} {a : Nat} (h : xw7 σ a) : xh_k σ (a + 2) = 9 := h.2.2.1.2.1
theorem w7z_2 {σ : xS} {a : Nat} (h : xw7 σ a) : xh_z σ (a + 2) = 40 := h.2.2.1.2.2
theorem w7r_3 {σ : xS} {a : Nat} (h : xw7 σ a) : xh_R σ 451 a = some (a + 3) := h.2.2.2.1.1
theorem w7k_3 {σ : xS} {a : Nat} (h : xw7 σ a) : xh_k σ (a + 3) = 9 := h.2.2.2.1.2.1
theorem w7z_3 {σ : xS} {a : Nat} (h : xw7 σ a) : xh_z σ (a + 3) = 40 := h.2.2.2.1.2.2
theorem w7r_4 {σ : xS} {a : Nat} (h : xw7 σ a) : xh_R σ 452 a = some (a + 4) := h.2.2.2.2.1.1
theorem w7k_4 {σ : xS} {a : Nat} (h : xw7 σ a) : xh_k σ (a + 4) = 9 := h.2.2.2.2.1.2.1
theorem w7z_4 {σ : xS} {a : Nat} (h : xw7 σ a) : xh_z σ (a + 4) = 40 := h.2.2.2.2.1.2.2
theorem w7r_5 {σ : xS} {a : Nat} (h : xw7 σ a) : xh_R σ 453 a = some (a + 5) := h.2.2.2.2.2.1.1
theorem w7k_5 {σ : xS} {a : Nat} (h : xw7 σ a) : xh_k σ (a + 5) = 9 := h.2.2.2.2.2.1.2.1
theorem w7z_5 {σ : xS} {a : Nat} (h : xw7 σ a) : xh_z σ (a + 5) = 40 := h.2.2.2.2.2.1.2.2
theorem w7r_6 {σ : xS} {a : Nat} (h : xw7 σ a) : xh_R σ 454 a = some (a + 6) := h.2.2.2.2.2.2.1.1
theorem w7k_6 {σ : xS} {a : Nat} (h : xw7 σ a) : xh_k σ (a + 6) = 10 := h.2.2.2.2.2.2.1.2.1
theorem w7z_6 {σ : xS} {a : Nat} (h : xw7 σ a) : xh_z σ (a + 6) = 40 := h.2.2.2.2.2.2.1.2.2
theorem w7r_7 {σ : xS} {a : Nat} (h : xw7 σ a) : xh_R σ 455 a = some (a + 7) := h.2.2.2.2.2.2.2.1.1
theorem w7k_7 {σ : xS} {a : Nat} (h : xw7 σ a) : xh_k σ (a + 7) = 10 := h.2.2.2.2.2.2.2.1.2.1
theorem w7z_7 {σ : xS} {a : Nat} (h : xw7 σ a) : xh_z σ (a + 7) = 40 := h.2.2.2.2.2.2.2.1.2.2
theorem w7r_8 {σ : xS} {a : Nat} (h : xw7 σ a) : xh_R σ 456 a = some (a + 8) := h.2.2.2.2.2.2.2.2.1.1
theorem w7k_8 {σ : xS} {a : Nat} (h : xw7 σ a) : xh_k σ (a + 8) = 9 := h.2.2.2.2.2.2.2.2.1.2.1
theorem w7z_8 {σ : xS} {a : Nat} (h : xw7 σ a) : xh_z σ (a + 8) = 40 := h.2.2.2.2.2.2.2.2.1.2.2
theorem w7r_9 {σ : xS} {a : Nat} (h : xw7 σ a) : xh_R σ 458 a = some (a + 9) := h.2.2.2.2.2.2.2.2.2.1.1
theorem w7k_9 {σ : xS} {a : Nat} (h : xw7 σ a) : xh_k σ (a + 9) = 9 := h.2.2.2.2.2.2.2.2.2.1.2.1
theorem w7z_9 {σ : xS} {a : Nat} (h : xw7 σ a) : xh_z σ (a + 9) = 100 := h.2.2.2.2.2.2.2.2.2.1.2.2
theorem w7r_10 {σ : xS} {a : Nat} (h : xw7 σ a) : xh_R σ 459 a = some (a + 10) := h.2.2.2.2.2.2.2.2.2.2.1.1
theorem w7k_10 {σ : xS} {a : Nat} (h : xw7 σ a) : xh_k σ (a + 10) = 9 := h.2.2.2.2.2.2.2.2.2.2.1.2.1
theorem w7z_10 {σ : xS} {a : Nat} (h : xw7 σ a) : xh_z σ (a + 10) = 100 := h.2.2.2.2.2.2.2.2.2.2.1.2.2
theorem w7r_11 {σ : xS} {a : Nat} (h : xw7 σ a) : xh_R σ 460 a = some (a + 11) := h.2.2.2.2.2.2.2.2.2.2.2.1.1
theorem w7k_11 {σ : xS} {a : Nat} (h : xw7 σ a) : xh_k σ (a + 11) = 9 := h.2.2.2.2.2.2.2.2.2.2.2.1.2.1
theorem w7z_11 {σ : xS} {a : Nat} (h : xw7 σ a) : xh_z σ (a + 11) = 100 := h.2.2.2.2.2.2.2.2.2.2.2.1.2.2
theorem w7r_12 {σ : xS} {a : Nat} (h : xw7 σ a) : xh_R σ 461 a = some (a + 12) := h.2.2.2.2.2.2.2.2.2.2.2.2.1.1
theorem w7k_12 {σ : xS} {a : Nat} (h : xw7 σ a) : xh_k σ (a + 12) = 9 := h.2.2.2.2.2.2.2.2.2.2.2.2.1.2.1
theorem w7z_12 {σ : xS} {a : Nat} (h : xw7 σ a) : xh_z σ (a + 12) = 100 := h.2.2.2.2.2.2.2.2.2.2.2.2.1.2.2
theorem w7r_13 {σ : xS} {a : Nat} (h : xw7 σ a) : xh_R σ 462 a = some (a + 13) := h.2.2.2.2.2.2.2.2.2.2.2.2.2.1.1
theorem w7k_13 {σ : xS} {a : Nat} (h : xw7 σ a) : xh_k σ (a + 13) = 9 := h.2.2.2.2.2.2.2.2.2.2.2.2.2.1.2.1
theorem w7z_13 {σ : xS} {a : Nat} (h : xw7 σ a) : xh_z σ (a + 13) = 100 := h.2.2.2.2.2.2.2.2.2.2.2.2.2.1.2.2
theorem w7r_14 {σ : xS} {a : Nat} (h : xw7 σ a) : xh_R σ 463 a = some (a + 14) := h.2.2.2.2.2.2.2.2.2.2.2.2.2.2.1.1
theorem w7k_14 {σ : xS} {a : Nat} (h : xw7 σ a) : xh_k σ (a + 14) = 9 := h.2.2.2.2.2.2.2.2.2.2.2.2.2.2.1.2.1
theorem w7z_14 {σ : xS} {a : Nat} (h : xw7 σ a) : xh_z σ (a + 14) = 100 := h.2.2.2.2.2.2.2.2.2.2.2.2.2.2.1.2.2
theorem w7r_15 {σ : xS} {a : Nat} (h : xw7 σ a) : xh_R σ 464 a = some (a + 15) := h.2.2.2.2.2.2.2.2.2.2.2.2.2.2.2.1.1
theorem w7k_15 {σ : xS} {a : Nat} (h : xw7 σ a) : xh_k σ (a + 15) = 9 := h.2.2.2.2.2.2.2.2.2.2.2.2.2.2.2.1.2.1
theorem w7z_15 {σ : xS} {a : Nat} (h : xw7 σ a) : xh_z σ (a + 15) = 100 := h.2.2.2.2.2.2.2.2.2.2.2.2.2.2.2.1.2.2
theorem w7r_16 {σ : xS} {a : Nat} (h : xw7 σ a) : xh_R σ 465 a = some (a + 16) := h.2.2.2.2.2.2.2.2.2.2.2.2.2.2.2.2.1.1
theorem w7k_16 {σ : xS} {a : Nat} (h : xw7 σ a) : xh_k σ (a + 16) = 9 := h.2.2.2.2.2.2.2.2.2.2.2.2.2.2.2.2.1.2.1
theorem w7z_16 {σ : xS} {a : Nat} (h : xw7 σ a) : xh_z σ (a + 16) = 100 := h.2.2.2.2.2.2.2.2.2.2.2.2.2.2.2.2.1.2.2
theorem w7r_17 {σ : xS} {a : Nat} (h : xw7 σ a) : xh_R σ 466 a = some (a + 17) := h.2.2.2.2.2.2.2.2.2.2.2.2.2.2.2.2.2.1.1
theorem w7k_17 {σ : xS} {a : Nat} (h : xw7 σ a) : xh_k σ (a + 17) = 9 := h.2.2.2.2.2.2.2.2.2.2.2.2.2.2.2.2.2.1.2.1
theorem w7z_17 {σ : xS} {a : Nat} (h : xw7 σ a) : xh_z σ (a + 17) = 100 := h.2.2.2.2.2.2.2.2.2.2.2.2.2.2.2.2.2.1.2.2
theorem w7r_18 {σ : xS} {a : Nat} (h : xw7 σ a) : xh_R σ 467 a = some (a + 18) := h.2.2.2.2.2.2.2.2.2.2.2.2.2.2.2.2.2.2.1.1
theorem w7k_18 {σ : xS} {a : Nat} (h : xw7 σ a) : xh_k σ (a + 18) = 9 := h.2.2.2.2.2.2.2.2.2.2.2.2.2.2.2.2.2.2.1.2.1
theorem w7z_18 {σ : xS} {a : Nat} (h : xw7 σ a) : xh_z σ (a + 18) = 100 := h.2.2.2.2.2.2.2.2.2.2.2.2.2.2.2.2.2.2.1.2.2
theorem w7r_19 {σ : xS} {a : Nat} (h : xw7 σ a) : xh_R σ 468 a = some (a + 19) := h.2.2.2.2.2.2.2.2.2.2.2.2.2.2.2.2.2.2.2.1.1
theorem w7k_19 {σ : xS} {a : Nat} (h : xw7 σ a) : xh_k σ (a + 19) = 9 := h.2.2.2.2.2.2.2.2.2.2.2.2.2.2.2.2.2.2.2.1.2.1
theorem w7z_19 {σ : xS} {a : Nat} (h : xw7 σ a) : xh_z σ (a + 19) = 100 := h.2.2.2.2.2.2.2.2.2.2.2.2.2.2.2.2.2.2.2.1.2.2
theorem w7r_20 {σ : xS} {a : Nat} (h : xw7 σ a) : xh_R σ 469 a = some (a + 20) := h.2.2.2.2.2.2.2.2.2.2.2.2.2.2.2.2.2.2.2.2.1.1
theorem w7k_20 {σ : xS} {a : Nat} (h : xw7 σ a) : xh_k σ (a + 20) = 9 := h.2.2.2.2.2.2.2.2.2.2.2.2.2.2.2.2.2.2.2.2.1.2.1
theorem w7z_20 {σ : xS} {a : Nat} (h : xw7 σ a) : xh_z σ (a + 20) = 100 := h.2.2.2.2.2.2.2.2.2.2.2.2.2.2.2.2.2.2.2.2.1.2.2
theorem w7r_21 {σ : xS} {a : Nat} (h : xw7 σ a) : xh_R σ 470 a = some (a + 21) := h.2.2.2.2.2.2.2.2.2.2.2.2.2.2.2.2.2.2.2.2.2.1.1
theorem w7k_21 {σ : xS} {a : Nat} (h : xw7 σ a) : xh_k σ (a + 21) = 9 := h.2.2.2.2.2.2.2.2.2.2.2.2.2.2.2.2.2.2.2.2.2.1.2.1
theorem w7z_21 {σ : xS} {a : Nat} (h : xw7 σ a) : xh_z σ (a + 21) = 100 := h.2.2.2.2.2.2.2.2.2.2.2.2.2.2.2.2.2.2.2.2.2.1.2.2
theorem w7r_22 {σ : xS} {a : Nat} (h : xw7 σ a) : xh_R σ 471 a = some (a + 22) := h.2.2.2.2.2.2.2.2.2.2.2.2.2.2.2.2.2.2.2.2.2.2.1.1
theorem w7k_22 {σ : xS} {a : Nat} (h : xw7 σ a) : xh_k σ (a + 22) = 9 := h.2.2.2.2.2.2.2.2.2.2.2.2.2.2.2.2.2.2.2.2.2.2.1.2.1
theorem w7z_22 {σ : xS} {a : Nat} (h : xw7 σ a) : xh_z σ (a + 22) = 100 := h.2.2.2.2.2.2.2.2.2.2.2.2.2.2.2.2.2.2.2.2.2.2.1.2.2
theorem w7r_23 {σ : xS} {a : Nat} (h : xw7 σ a) : xh_R σ 474 a = some (a + 23) := h.2.2.2.2.2.2.2.2.2.2.2.2.2.2.2.2.2.2.2.2.2.2.2.1.1
theorem w7k_23 {σ : xS} {a : Nat} (h : xw7 σ a) : xh_k σ (a + 23) = 9 := h.2.2.2.2.2.2.2.2.2.2.2.2.2.2.2.2.2.2.2.2.2.2.2.1.2.1
theorem w7z_23 {σ : xS} {a : Nat} (h : xw7 σ a) : xh_z σ (a + 23) = 40 := h.2.2.2.2.2.2.2.2.2.2.2.2.2.2.2.2.2.2.2.2.2.2.2.1.2.2
theorem w7r_24 {σ : xS} {a : Nat} (h : xw7 σ a) : xh_R σ 475 a = some (a + 24) := h.2.2.2.2.2.2.2.2.2.2.2.2.2.2.2.2.2.2.2.2.2.2.2.2.1.1
theorem w7k_24 {σ : xS} {a : Nat} (h : xw7 σ a) : xh_k σ (a + 24) = 9 := h.2.2.2.2.2.2.2.2.2.2.2.2.2.2.2.2.2.2.2.2.2.2.2.2.1.2.1
theorem w7z_24 {σ : xS} {a : Nat} (h : xw7 σ a) : xh_z σ (a + 24) = 40 := h.2.2.2.2.2.2.2.2.2.2.2.2.2.2.2.2.2.2.2.2.2.2.2.2.1.2.2
theorem w7r_25 {σ : xS} {a : Nat} (h : xw7 σ a) : xh_R σ 476 a = some (a + 25) := h.2.2.2.2.2.2.2.2.2.2.2.2.2.2.2.2.2.2.2.2.2.2.2.2.2.1.1
theorem w7k_25 {σ : xS} {a : Nat} (h : xw7 σ a) : xh_k σ (a + 25) = 9 := h.2.2.2.2.2.2.2.2.2.2.2.2.2.2.2.2.2.2.2.2.2.2.2.2.2.1.2.1
theorem w7z_25 {σ : xS} {a : Nat} (h : xw7 σ a) : xh_z σ (a + 25) = 40 := h.2.2.2.2.2.2.2.2.2.2.2.2.2.2.2.2.2.2.2.2.2.2.2.2.2.1.2.2
theorem w7r_26 {σ : xS} {a : Nat} (h : xw7 σ a) : xh_R σ 477 a = some (a + 26) := h.2.2.2.2.2.2.2.2.2.2.2.2.2.2.2.2.2.2.2.2.2.2.2.2.2.2.1.1
theorem w7k_26 {σ : xS} {a : Nat} (h : xw7 σ a) : xh_k σ (a + 26) = 10 := h.2.2.2.2.2.2.2.2.2.2.2.2.2.2.2.2.2.2.2.2.2.2.2.2.2.2.1.2.1
theorem w7z_26 {σ : xS} {a : Nat} (h : xw7 σ a) : xh_z σ (a + 26) = 40 := h.2.2.2.2.2.2.2.2.2.2.2.2.2.2.2.2.2.2.2.2.2.2.2.2.2.2.1.2.2
theorem w7r_27 {σ : xS} {a : Nat} (h : xw7 σ a) : xh_R σ 479 a = some (a + 27) := h.2.2.2.2.2.2.2.2.2.2.2.2.2.2.2.2.2.2.2.2.2.2.2.2.2.2.2.1.1
theorem w7k_27 {σ : xS} {a : Nat} (h : xw7 σ a) : xh_k σ (a + 27) = 9 := h.2.2.2.2.2.2.2.2.2.2.2.2.2.2.2.2.2.2.2.2.2.2.2.2.2.2.2.1.2.1
theorem w7z_27 {σ : xS} {a : Nat} (h : xw7 σ a) : xh_z σ (a + 27) = 400 := h.2.2.2.2.2.2.2.2.2.2.2.2.2.2.2.2.2.2.2.2.2.2.2.2.2.2.2.1.2.2
theorem w7r_28 {σ : xS} {a : Nat} (h : xw7 σ a) : xh_R σ 480 a = some (a + 28) := h.2.2.2.2.2.2.2.2.2.2.2.2.2.2.2.2.2.2.2.2.2.2.2.2.2.2.2.2.1.1
theorem w7k_28 {σ : xS} {a : Nat} (h : xw7 σ a) : xh_k σ (a + 28) = 9 := h.2.2.2.2.2.2.2.2.2.2.2.2.2.2.2.2.2.2.2.2.2.2.2.2.2.2.2.2.1.2.1
theorem w7z_28 {σ : xS} {a : Nat} (h : xw7 σ a) : xh_z σ (a + 28) = 400 := h.2.2.2.2.2.2.2.2.2.2.2.2.2.2.2.2.2.2.2.2.2.2.2.2.2.2.2.2.1.2.2
theorem w7r_29 {σ : xS} {a : Nat} (h : xw7 σ a) : xh_R σ 481 a = some (a + 29) := h.2.2.2.2.2.2.2.2.2.2.2.2.2.2.2.2.2.2.2.2.2.2.2.2.2.2.2.2.2.1.1
theorem w7k_29 {σ : xS} {a : Nat} (h : xw7 σ a) : xh_k σ (a + 29) = 9 := h.2.2.2.2.2.2.2.2.2.2.2.2.2.2.2.2.2.2.2.2.2.2.2.2.2.2.2.2.2.1.2.1
theorem w7z_29 {σ : xS} {a : Nat} (h : xw7 σ a) : xh_z σ (a + 29) = 400 := h.2.2.2.2.2.2.2.2.2.2.2.2.2.2.2.2.2.2.2.2.2.2.2.2.2.2.2.2.2.1.2.2
theorem w7r_30 {σ : xS} {a : Nat} (h : xw7 σ a) : xh_R σ 482 a = some (a + 30) := h.2.2.2.2.2.2.2.2.2.2.2.2.2.2.2.2.2.2.2.2.2.2.2.2.2.2.2.2.2.2.1.1
theorem w7k_30 {σ : xS} {a : Nat} (h : xw7 σ a) : xh_k σ (a + 30) = 9 := h.2.2.2.2.2.2.2.2.2.2.2.2.2.2.2.2.2.2.2.2.2.2.2.2.2.2.2.2.2.2.1.2.1
theorem w7z_30 {σ : xS} {a : Nat} (h : xw7 σ a) : xh_z σ (a + 30) = 400 := h.2.2.2.2.2.2.2.2.2.2.2.2.2.2.2.2.2.2.2.2.2.2.2.2.2.2.2.2.2.2.1.2.2
theorem w7r_31 {σ : xS} {a : Nat} (h : xw7 σ a) : xh_R σ 483 a = some (a + 31) := h.2.2.2.2.2.2.2.2.2.2.2.2.2.2.2.2.2.2.2.2.2.2.2.2.2.2.2.2.2.2.2.1.1
theorem w7k_31 {σ : xS} {a : Nat} (h : xw7 σ a) : xh_k σ (a + 31) = 9 := h.2.2.2.2.2.2.2.2.2.2.2.2.2.2.2.2.2.2.2.2.2.2.2.2.2.2.2.2.2.2.2.1.2.1
theorem w7z_31 {σ : xS} {a : Nat} (h : xw7 σ a) : xh_z σ (a + 31) = 400 := h.2.2.2.2.2.2.2.2.2.2.2.2.2.2.2.2.2.2.2.2.2.2.2.2.2.2.2.2.2.2.2.1.2.2
theorem w7r_32 {σ : xS} {a : Nat} (h : xw7 σ a) : xh_R σ 484 a = some (a + 32) := h.2.2.2.2.2.2.2.2.2.2.2.2.2.2.2.2.2.2.2.2.2.2.2.2.2.2.2.2.2.2.2.2.1.1
theorem w7k_32 {σ : xS} {a : Nat} (h : xw7 σ a) : xh_k σ (a + 32) = 9 := h.2.2.2.2.2.2.2.2.2.2.2.2.2.2.2.2.2.2.2.2.2.2.2.2.2.2.2.2.2.2.2.2.1.2.1
theorem w7z_32 {σ : xS} {a : Nat} (h : xw7 σ a) : xh_z σ (a + 32) = 400 := h.2.2.2.2.2.2.2.2.2.2.2.2.2.2.2.2.2.2.2.2.2.2.2.2.2.2.2.2.2.2.2.2.1.2.2
theorem w7r_33 {σ : xS} {a : Nat} (h : xw7 σ a) : xh_R σ 485 a = some (a + 33) := h.2.2.2.2.2.2.2.2.2.2.2.2.2.2.2.2.2.2.2.2.2.2.2.2.2.2.2.2.2.2.2.2.2.1.1
theorem w7k_33 {σ : xS} {a : Nat} (h : xw7 σ a) : xh_k σ (a + 33) = 9 := h.2.2.2.2.2.2.2.2.2.2.2.2.2.2.2.2.2.2.2.2.2.2.2.2.2.2.2.2.2.2.2.2.2.1.2.1
theorem w7z_33 {σ : xS} {a : Nat} (h : xw7 σ a) : xh_z σ (a + 33) = 400 := h.2.2.2.2.2.2.2.2.2.2.2.2.2.2.2.2.2.2.2.2.2.2.2.2.2.2.2.2.2.2.2.2.2.1.2.2
theorem w7r_34 {σ : xS} {a : Nat} (h : xw7 σ a) : xh_R σ 486 a = some (a + 34) := h.2.2.2.2.2.2.2.2.2.2.2.2.2.2.2.2.2.2.2.2.2.2.2.2.2.2.2.2.2.2.2.2.2.2.1.1
theorem w7k_34 {σ : xS} {a : Nat} (h : xw7 σ a) : xh_k σ (a + 34) = 9 := h.2.2.2.2.2.2.2.2.2.2.2.2.2.2.2.2.2.2.2.2.2.2.2.2.2.2.2.2.2.2.2.2.2.2.1.2.1
theorem w7z_34 {σ : xS} {a : Nat} (h : xw7 σ a) : xh_z σ (a + 34) = 400 := h.2.2.2.2.2.2.2.2.2.2.2.2.2.2.2.2.2.2.2.2.2.2.2.2.2.2.2.2.2.2.2.2.2.2.1.2.2
theorem w7r_35 {σ : xS} {a : Nat} (h : xw7 σ a) : xh_R σ 487 a = some (a + 35) := h.2.2.2.2.2.2.2.2.2.2.2.2.2.2.2.2.2.2.2.2.2.2.2.2.2.2.2.2.2.2.2.2.2.2.2.1.1
theorem w7k_35 {σ : xS} {a : Nat} (h : xw7 σ a) : xh_k σ (a + 35) = 10 := h.2.2.2.2.2.2.2.2.2.2.2.2.2.2.2.2.2.2.2.2.2.2.2.2.2.2.2.2.2.2.2.2.2.2.2.1.2.1
theorem w7z_35 {σ : xS} {a : Nat} (h : xw7 σ a) : xh_z σ (a + 35) = 400 := h.2.2.2.2.2.2.2.2.2.2.2.2.2.2.2.2.2.2.2.2.2.2.2.2.2.2.2.2.2.2.2.2.2.2.2.1.2.2
theorem w7r_36 {σ : xS} {a : Nat} (h : xw7 σ a) : xh_R σ 488 a = some (a + 36) := h.2.2.2.2.2.2.2.2.2.2.2.2.2.2.2.2.2.2.2.2.2.2.2.2.2.2.2.2.2.2.2.2.2.2.2.2.1.1
theorem w7k_36 {σ : xS} {a : Nat} (h : xw7 σ a) : xh_k σ (a + 36) = 10 := h.2.2.2.2.2.2.2.2.2.2.2.2.2.2.2.2.2.2.2.2.2.2.2.2.2.2.2.2.2.2.2.2.2.2.2.2.1.2.1
theorem w7z_36 {σ : xS} {a : Nat} (h : xw7 σ a) : xh_z σ (a + 36) = 16 := h.2.2.2.2.2.2.2.2.2.2.2.2.2.2.2.2.2.2.2.2.2.2.2.2.2.2.2.2.2.2.2.2.2.2.2.2.1.2.2
theorem w7r_37 {σ : xS} {a : Nat} (h : xw7 σ a) : xh_R σ 490 a = some (a + 37) := h.2.2.2.2.2.2.2.2.2.2.2.2.2.2.2.2.2.2.2.2.2.2.2.2.2.2.2.2.2.2.2.2.2.2.2.2.2.1.1
theorem w7k_37 {σ : xS} {a : Nat} (h : xw7 σ a) : xh_k σ (a + 37) = 9 := h.2.2.2.2.2.2.2.2.2.2.2.2.2.2.2.2.2.2.2.2.2.2.2.2.2.2.2.2.2.2.2.2.2.2.2.2.2.1.2.1
theorem w7z_37 {σ : xS} {a : Nat} (h : xw7 σ a) : xh_z σ (a + 37) = 400 := h.2.2.2.2.2.2.2.2.2.2.2.2.2.2.2.2.2.2.2.2.2.2.2.2.2.2.2.2.2.2.2.2.2.2.2.2.2.1.2.2
theorem w7r_38 {σ : xS} {a : Nat} (h : xw7 σ a) : xh_R σ 491 a = some (a + 38) := h.2.2.2.2.2.2.2.2.2.2.2.2.2.2.2.2.2.2.2.2.2.2.2.2.2.2.2.2.2.2.2.2.2.2.2.2.2.2.1.1
theorem w7k_38 {σ : xS} {a : Nat} (h : xw7 σ a) : xh_k σ (a + 38) = 9 := h.2.2.2.2.2.2.2.2.2.2.2.2.2.2.2.2.2.2.2.2.2.2.2.2.2.2.2.2.2.2.2.2.2.2.2.2.2.2.1.2.1
theorem w7z_38 {σ : xS} {a : Nat} (h : xw7 σ a) : xh_z σ (a + 38) = 400 := h.2.2.2.2.2.2.2.2.2.2.2.2.2.2.2.2.2.2.2.2.2.2.2.2.2.2.2.2.2.2.2.2.2.2.2.2.2.2.1.2.2
theorem w7r_39 {σ : xS} {a : Nat} (h : xw7 σ a) : xh_R σ 492 a = some (a + 39) := h.2.2.2.2.2.2.2.2.2.2.2.2.2.2.2.2.2.2.2.2.2.2.2.2.2.2.2.2.2.2.2.2.2.2.2.2.2.2.2.1
theorem w7k_39 {σ : xS} {a : Nat} (h : xw7 σ a) : xh_k σ (a + 39) = 9 := h.2.2.2.2.2.2.2.2.2.2.2.2.2.2.2.2.2.2.2.2.2.2.2.2.2.2.2.2.2.2.2.2.2.2.2.2.2.2.2.2.1
theorem w7z_39 {σ : xS} {a : Nat} (h : xw7 σ a) : xh_z σ (a + 39) = 400 := h.2.2.2.2.2.2.2.2.2.2.2.2.2.2.2.2.2.2.2.2.2.2.2.2.2.2.2.2.2.2.2.2.2.2.2.2.2.2.2.2.2
theorem xw7_I {σ σ2 : xS} {f a b : Nat} {v : Int32} (e : σ2 = xs_I σ f b v) (h : xw7 σ a) : xw7 σ2 a := by subst e; exact h
theorem xw7_L {σ σ2 : xS} {f a b : Nat} {v : Int64} (e : σ2 = xs_L σ f b v) (h : xw7 σ a) : xw7 σ2 a := by subst e; exact h
theorem xw7_a {σ σ2 : xS} {f a b : Nat} {v : Int32} (e : σ2 = xs_a σ f b v) (h : xw7 σ a) : xw7 σ2 a := by subst e; exact h
theorem xw7_q {σ σ2 : xS} {f a b : Nat} {v : Option Nat} (e : σ2 = xs_q σ f b v) (h : xw7 σ a) : xw7 σ2 a := by subst e; exact h
theorem xne {x y : Int32} {k : Int} (hy : y.toInt = k) (h : ¬ x = y) : ¬ k = x.toInt := fun z => h (Int32.toInt_inj.mp (by rw [hy, z]))
theorem xlk2 {a1 o1 a2 o2 d k : Int} (h1 : ¬ a1 = k) (h2 : ¬ a2 = k) : Op.lookupswitch.offset [(a1, o1), (a2, o2)] d k = d := by
  rw [Op.lookupswitch.offset_cons, if_neg h1, Op.lookupswitch.offset_cons, if_neg h2]; rfl
theorem xlk3 {a1 o1 a2 o2 a3 o3 d k : Int} (h1 : ¬ a1 = k) (h2 : ¬ a2 = k) (h3 : ¬ a3 = k) : Op.lookupswitch.offset [(a1, o1), (a2, o2), (a3, o3)] d k = d := by
  rw [Op.lookupswitch.offset_cons, if_neg h1, Op.lookupswitch.offset_cons, if_neg h2, Op.lookupswitch.offset_cons, if_neg h3]; rfl
theorem xsw_0_4 {x : Int32} (h0 : ¬ x = 0) (h1 : ¬ x = 1) (h2 : ¬ x = 2) (h3 : ¬ x = 3) (h4 : ¬ x = 4) : x.toInt < 0 ∨ (4 : Int) < x.toInt := by
  have e0 : ¬ (0 : Int) = x.toInt := xne (by decide) h0
  have e1 : ¬ (1 : Int) = x.toInt := xne (by decide) h1
  have e2 : ¬ (2 : Int) = x.toInt := xne (by decide) h2
  have e3 : ¬ (3 : Int) = x.toInt := xne (by decide) h3
  have e4 : ¬ (4 : Int) = x.toInt := xne (by decide) h4
  omega
theorem xsw_0_5 {x : Int32} (h0 : ¬ x = 0) (h1 : ¬ x = 1) (h2 : ¬ x = 2) (h3 : ¬ x = 3) (h4 : ¬ x = 4) (h5 : ¬ x = 5) : x.toInt < 0 ∨ (5 : Int) < x.toInt := by
  have e0 : ¬ (0 : Int) = x.toInt := xne (by decide) h0
  have e1 : ¬ (1 : Int) = x.toInt := xne (by decide) h1
  have e2 : ¬ (2 : Int) = x.toInt := xne (by decide) h2
  have e3 : ¬ (3 : Int) = x.toInt := xne (by decide) h3
  have e4 : ¬ (4 : Int) = x.toInt := xne (by decide) h4
  have e5 : ¬ (5 : Int) = x.toInt := xne (by decide) h5
  omega
theorem xsw_0_6 {x : Int32} (h0 : ¬ x = 0) (h1 : ¬ x = 1) (h2 : ¬ x = 2) (h3 : ¬ x = 3) (h4 : ¬ x = 4) (h5 : ¬ x = 5) (h6 : ¬ x = 6) : x.toInt < 0 ∨ (6 : Int) < x.toInt := by
  have e0 : ¬ (0 : Int) = x.toInt := xne (by decide) h0
  have e1 : ¬ (1 : Int) = x.toInt := xne (by decide) h1
  have e2 : ¬ (2 : Int) = x.toInt := xne (by decide) h2
  have e3 : ¬ (3 : Int) = x.toInt := xne (by decide) h3
  have e4 : ¬ (4 : Int) = x.toInt := xne (by decide) h4
  have e5 : ¬ (5 : Int) = x.toInt := xne (by decide) h5
  have e6 : ¬ (6 : Int) = x.toInt := xne (by decide) h6
  omega
theorem xsw_0_7 {x : Int32} (h0 : ¬ x = 0) (h1 : ¬ x = 1) (h2 : ¬ x = 2) (h3 : ¬ x = 3) (h4 : ¬ x = 4) (h5 : ¬ x = 5) (h6 : ¬ x = 6) (h7 : ¬ x = 7) : x.toInt < 0 ∨ (7 : Int) < x.toInt := by
  have e0 : ¬ (0 : Int) = x.toInt := xne (by decide) h0
  have e1 : ¬ (1 : Int) = x.toInt := xne (by decide) h1
  have e2 : ¬ (2 : Int) = x.toInt := xne (by decide) h2
  have e3 : ¬ (3 : Int) = x.toInt := xne (by decide) h3
  have e4 : ¬ (4 : Int) = x.toInt := xne (by decide) h4
  have e5 : ¬ (5 : Int) = x.toInt := xne (by decide) h5
  have e6 : ¬ (6 : Int) = x.toInt := xne (by decide) h6
  have e7 : ¬ (7 : Int) = x.toInt := xne (by decide) h7
  omega
theorem xsw_0_8 {x : Int32} (h0 : ¬ x = 0) (h1 : ¬ x = 1) (h2 : ¬ x = 2) (h3 : ¬ x = 3) (h4 : ¬ x = 4) (h5 : ¬ x = 5) (h6 : ¬ x = 6) (h7 : ¬ x = 7) (h8 : ¬ x = 8) : x.toInt < 0 ∨ (8 : Int) < x.toInt := by
  have e0 : ¬ (0 : Int) = x.toInt := xne (by decide) h0
  have e1 : ¬ (1 : Int) = x.toInt := xne (by decide) h1
  have e2 : ¬ (2 : Int) = x.toInt := xne (by decide) h2
  have e3 : ¬ (3 : Int) = x.toInt := xne (by decide) h3
  have e4 : ¬ (4 : Int) = x.toInt := xne (by decide) h4
  have e5 : ¬ (5 : Int) = x.toInt := xne (by decide) h5
  have e6 : ¬ (6 : Int) = x.toInt := xne (by decide) h6
  have e7 : ¬ (7 : Int) = x.toInt := xne (by decide) h7
  have e8 : ¬ (8 : Int) = x.toInt := xne (by decide) h8
  omega
theorem xsw_0_18 {x : Int32} (h0 : ¬ x = 0) (h1 : ¬ x = 1) (h2 : ¬ x = 2) (h3 : ¬ x = 3) (h4 : ¬ x = 4) (h5 : ¬ x = 5) (h6 : ¬ x = 6) (h7 : ¬ x = 7) (h8 : ¬ x = 8) (h9 : ¬ x = 9) (h10 : ¬ x = 10) (h11 : ¬ x = 11) (h12 : ¬ x = 12) (h13 : ¬ x = 13) (h14 : ¬ x = 14) (h15 : ¬ x = 15) (h16 : ¬ x = 16) (h17 : ¬ x = 17) (h18 : ¬ x = 18) : x.toInt < 0 ∨ (18 : Int) < x.toInt := by
  have e0 : ¬ (0 : Int) = x.toInt := xne (by decide) h0
  have e1 : ¬ (1 : Int) = x.toInt := xne (by decide) h1
  have e2 : ¬ (2 : Int) = x.toInt := xne (by decide) h2
  have e3 : ¬ (3 : Int) = x.toInt := xne (by decide) h3
  have e4 : ¬ (4 : Int) = x.toInt := xne (by decide) h4
  have e5 : ¬ (5 : Int) = x.toInt := xne (by decide) h5
  have e6 : ¬ (6 : Int) = x.toInt := xne (by decide) h6
  have e7 : ¬ (7 : Int) = x.toInt := xne (by decide) h7
  have e8 : ¬ (8 : Int) = x.toInt := xne (by decide) h8
  have e9 : ¬ (9 : Int) = x.toInt := xne (by decide) h9
  have e10 : ¬ (10 : Int) = x.toInt := xne (by decide) h10
  have e11 : ¬ (11 : Int) = x.toInt := xne (by decide) h11
  have e12 : ¬ (12 : Int) = x.toInt := xne (by decide) h12
  have e13 : ¬ (13 : Int) = x.toInt := xne (by decide) h13
  have e14 : ¬ (14 : Int) = x.toInt := xne (by decide) h14
  have e15 : ¬ (15 : Int) = x.toInt := xne (by decide) h15
  have e16 : ¬ (16 : Int) = x.toInt := xne (by decide) h16
  have e17 : ¬ (17 : Int) = x.toInt := xne (by decide) h17
  have e18 : ¬ (18 : Int) = x.toInt := xne (by decide) h18
  omega
theorem xsw_1_6 {x : Int32} (h1 : ¬ x = 1) (h2 : ¬ x = 2) (h3 : ¬ x = 3) (h4 : ¬ x = 4) (h5 : ¬ x = 5) (h6 : ¬ x = 6) : x.toInt < 1 ∨ (6 : Int) < x.toInt := by
  have e1 : ¬ (1 : Int) = x.toInt := xne (by decide) h1
  have e2 : ¬ (2 : Int) = x.toInt := xne (by decide) h2
  have e3 : ¬ (3 : Int) = x.toInt := xne (by decide) h3
  have e4 : ¬ (4 : Int) = x.toInt := xne (by decide) h4
  have e5 : ¬ (5 : Int) = x.toInt := xne (by decide) h5
  have e6 : ¬ (6 : Int) = x.toInt := xne (by decide) h6
  omega
theorem xcatI (x : Int32) : (Value.int x).category = 1 := rfl
theorem xcatR (x : Nat) : (Value.ref x).category = 1 := rfl
theorem xcatL (x : Int64) : (Value.long x).category = 2 := rfl
theorem xcatN : Value.null.category = 1 := rfl
theorem cL_0 : Int64.ofNat ((0 : Fin 2) : Nat) = 0 := rfl
theorem cL_1 : Int64.ofNat ((1 : Fin 2) : Nat) = 1 := rfl
theorem x_mmin {M : xM} {pc : Nat} {lv : List (Nat × Value)} {st : List Value} {σ : xS} {Q : Option Value → xS → Prop} {idx : Nat} {x y : Int32} (hd : decode (xm_c M) pc = .ok (.invokestatic idx, 3)) (w1 : Cond.methodLink (xm_y M).cls idx Lib.Math.min.name ∈ xTb) (w2 : Cond.static Lib.Math.min.name ∈ xTb) (w3 : Cond.initialized "java/lang/Math" ∈ xTb) (w4 : Cond.code Lib.Math.min.name Lib.Math.min.code 2 (some .int) ∈ xTb) (hf : 1 ≤ xm_f M) (hlo : 21 ≤ xm_l M) (hst : (st.map fun v => v.category).sum ≤ 8) (kk : xX M (pc + 3) lv (.int (if y < x then y else x) :: st) σ Q) : xX M pc lv (.int y :: .int x :: st) σ Q := by
  intro l B G A p e R s m args below meth c C H locs cells slots L ls hl
  have C0 := C
  obtain ⟨hx, hb, hr, hml, hown, hts, ⟨hK, hNw⟩, hlk, hnm, hA, hR, hB⟩ := C
  have L0 := L
  obtain ⟨⟨hxr, hn, hm, hB1, hnm2⟩, hS, hdom, hc1, hs1⟩ := L
  refine va_mmin hx hb (by rw [hml]; exact hl.1.symm) hown (hts _ (List.mem_cons_of_mem _ w1)) (hts _ (List.mem_cons_of_mem _ w2)) (hts _ (List.mem_cons_of_mem _ w3)) (hts _ (List.mem_cons_of_mem _ w4)) (by rw [hR]; exact hf) (by rw [hR]; show _ ≤ xm_l M; omega) (by rw [hR]; show cells ≤ B.1 + 18000 - s.heap.size; omega) (by rw [hR]; show slots ≤ B.2 + 7200000 - xtot s.heap; omega) hd (kk l B G A p e R s m args below meth c C0 H locs cells slots L0 ls hl)
theorem x_mmax {M : xM} {pc : Nat} {lv : List (Nat × Value)} {st : List Value} {σ : xS} {Q : Option Value → xS → Prop} {idx : Nat} {x y : Int32} (hd : decode (xm_c M) pc = .ok (.invokestatic idx, 3)) (w1 : Cond.methodLink (xm_y M).cls idx Lib.Math.max.name ∈ xTb) (w2 : Cond.static Lib.Math.max.name ∈ xTb) (w3 : Cond.initialized "java/lang/Math" ∈ xTb) (w4 : Cond.code Lib.Math.max.name Lib.Math.max.code 2 (some .int) ∈ xTb) (hf : 1 ≤ xm_f M) (hlo : 21 ≤ xm_l M) (hst : (st.map fun v => v.category).sum ≤ 8) (kk : xX M (pc + 3) lv (.int (if x < y then y else x) :: st) σ Q) : xX M pc lv (.int y :: .int x :: st) σ Q := by
  intro l B G A p e R s m args below meth c C H locs cells slots L ls hl
  have C0 := C
  obtain ⟨hx, hb, hr, hml, hown, hts, ⟨hK, hNw⟩, hlk, hnm, hA, hR, hB⟩ := C
  have L0 := L
  obtain ⟨⟨hxr, hn, hm, hB1, hnm2⟩, hS, hdom, hc1, hs1⟩ := L
  refine va_mmax hx hb (by rw [hml]; exact hl.1.symm) hown (hts _ (List.mem_cons_of_mem _ w1)) (hts _ (List.mem_cons_of_mem _ w2)) (hts _ (List.mem_cons_of_mem _ w3)) (hts _ (List.mem_cons_of_mem _ w4)) (by rw [hR]; exact hf) (by rw [hR]; show _ ≤ xm_l M; omega) (by rw [hR]; show cells ≤ B.1 + 18000 - s.heap.size; omega) (by rw [hR]; show slots ≤ B.2 + 7200000 - xtot s.heap; omega) hd (kk l B G A p e R s m args below meth c C0 H locs cells slots L0 ls hl)
theorem cB_100 : (Int8.ofInt (100)).toInt32 = 100 := by decide
theorem cB_16 : (Int8.ofInt (16)).toInt32 = 16 := by decide
theorem cB_20 : (Int8.ofInt (20)).toInt32 = 20 := by decide
theorem cB_40 : (Int8.ofInt (40)).toInt32 = 40 := by decide
theorem cB_6 : (Int8.ofInt (6)).toInt32 = 6 := by decide
theorem cB_7 : (Int8.ofInt (7)).toInt32 = 7 := by decide
theorem cB_m2 : (Int8.ofInt (-2)).toInt32 = -2 := by decide
theorem cB_m3 : (Int8.ofInt (-3)).toInt32 = -3 := by decide
theorem cB_m9 : (Int8.ofInt (-9)).toInt32 = -9 := by decide
theorem cI_0 : Int32.ofInt (0) = 0 := by decide
theorem cI_1 : Int32.ofInt (1) = 1 := by decide
theorem cI_2 : Int32.ofInt (2) = 2 := by decide
theorem cI_3 : Int32.ofInt (3) = 3 := by decide
theorem cI_4 : Int32.ofInt (4) = 4 := by decide
theorem cI_5 : Int32.ofInt (5) = 5 := by decide
theorem cI_m1 : Int32.ofInt (-1) = -1 := by decide
theorem cN_100 : (100 : Int32).toNatClampNeg = 100 := by decide
theorem cN_16 : (16 : Int32).toNatClampNeg = 16 := by decide
theorem cN_40 : (40 : Int32).toNatClampNeg = 40 := by decide
theorem cN_400 : (400 : Int32).toNatClampNeg = 400 := by decide
theorem cS_1000 : (Int16.ofInt (1000)).toInt32 = 1000 := by decide
theorem cS_255 : (Int16.ofInt (255)).toInt32 = 255 := by decide
theorem cS_400 : (Int16.ofInt (400)).toInt32 = 400 := by decide
abbrev M_X0_init : xM := (yX0_init, cX0_init, 1, none, 1, 20)
abbrev M_X0_add : xM := (yX0_add, cX0_add, 2, none, 0, 0)
abbrev M_X0_take : xM := (yX0_take, cX0_take, 2, (some (.object "PromiseWire$Message")), 0, 0)
abbrev M_X0_at : xM := (yX0_at, cX0_at, 4, (some (.object "PromiseWire$Message")), 0, 0)
abbrev M_X0_sumOfNs : xM := (yX0_sumOfNs, cX0_sumOfNs, 4, (some .int), 0, 0)
abbrev M_X1_init : xM := (yX1_init, cX1_init, 4, none, 1, 20)
abbrev M_X1_answer : xM := (yX1_answer, cX1_answer, 3, (some .int), 0, 0)
abbrev M_X1_breakByCut : xM := (yX1_breakByCut, cX1_breakByCut, 1, none, 1, 22)
abbrev M_X1_destination : xM := (yX1_destination, cX1_destination, 1, (some .int), 0, 0)
abbrev M_X1_whatLetter : xM := (yX1_whatLetter, cX1_whatLetter, 1, (some .int), 0, 0)
abbrev M_X2_init : xM := (yX2_init, cX2_init, 5, none, 2, 40)
abbrev M_X2_isKnownIn : xM := (yX2_isKnownIn, cX2_isKnownIn, 2, (some .boolean), 0, 0)
abbrev M_X2_howIn : xM := (yX2_howIn, cX2_howIn, 2, (some .int), 0, 0)
abbrev M_X2_valueIn : xM := (yX2_valueIn, cX2_valueIn, 2, (some .int), 0, 0)
abbrev M_X3_init : xM := (yX3_init, cX3_init, 7, none, 2, 40)
abbrev M_X4_init : xM := (yX4_init, cX4_init, 4, none, 1, 20)
abbrev M_X5_init : xM := (yX5_init, cX5_init, 3, none, 2, 40)
abbrev M_X6_init : xM := (yX6_init, cX6_init, 2, none, 3, 62)
abbrev M_X6_isHouse : xM := (yX6_isHouse, cX6_isHouse, 1, (some .boolean), 0, 0)
abbrev M_X6_mayBegin : xM := (yX6_mayBegin, cX6_mayBegin, 2, (some .boolean), 0, 0)
abbrev M_X6_addThing : xM := (yX6_addThing, cX6_addThing, 7, (some .int), 3, 66)
abbrev M_X6_thing : xM := (yX6_thing, cX6_thing, 4, (some .int), 4, 92)
abbrev M_X6_thingAt : xM := (yX6_thingAt, cX6_thingAt, 2, (some (.object "PromiseWire$Thing")), 0, 0)
abbrev M_X6_guard : xM := (yX6_guard, cX6_guard, 6, (some .int), 4, 92)
abbrev M_X6_oneIf : xM := (yX6_oneIf, cX6_oneIf, 1, (some .int), 0, 0)
abbrev M_X6_shut : xM := (yX6_shut, cX6_shut, 5, (some .int), 1, 21)
abbrev M_X6_back : xM := (yX6_back, cX6_back, 4, (some .int), 1, 21)
abbrev M_X6_wireAt : xM := (yX6_wireAt, cX6_wireAt, 3, (some (.object "PromiseWire$Wire")), 0, 0)
abbrev M_X6_post : xM := (yX6_post, cX6_post, 5, (some .boolean), 1, 22)
abbrev M_X6_settle : xM := (yX6_settle, cX6_settle, 4, none, 2, 46)
abbrev M_X6_answerHeld : xM := (yX6_answerHeld, cX6_answerHeld, 6, (some .int), 3, 69)
abbrev M_X6_send : xM := (yX6_send, cX6_send, 3, none, 3, 69)
abbrev M_X6_sendOn : xM := (yX6_sendOn, cX6_sendOn, 4, none, 4, 91)
abbrev M_X6_postWhen : xM := (yX6_postWhen, cX6_postWhen, 5, none, 2, 46)
abbrev M_X6_postWhens : xM := (yX6_postWhens, cX6_postWhens, 5, none, 3, 70)
abbrev M_X6_tellAsker : xM := (yX6_tellAsker, cX6_tellAsker, 3, none, 4, 94)
abbrev M_X6_fulfil : xM := (yX6_fulfil, cX6_fulfil, 6, none, 5, 116)
abbrev M_X6_doAll : xM := (yX6_doAll, cX6_doAll, 3, none, 6, 141)
abbrev M_X6_wake : xM := (yX6_wake, cX6_wake, 5, (some .int), 7, 163)
abbrev M_X6_about : xM := (yX6_about, cX6_about, 4, (some .int), 1, 21)
abbrev M_X6_promiseAt : xM := (yX6_promiseAt, cX6_promiseAt, 2, (some (.object "PromiseWire$Promise")), 0, 0)
abbrev M_X6_ask : xM := (yX6_ask, cX6_ask, 13, (some .int), 7, 163)
abbrev M_X6_when : xM := (yX6_when, cX6_when, 7, (some .int), 3, 70)
abbrev M_X6_state : xM := (yX6_state, cX6_state, 5, (some .int), 1, 21)
abbrev M_X6_promise : xM := (yX6_promise, cX6_promise, 4, (some .int), 1, 21)
abbrev M_X6_receiveAnswer : xM := (yX6_receiveAnswer, cX6_receiveAnswer, 4, none, 5, 116)
abbrev M_X6_reachPromise : xM := (yX6_reachPromise, cX6_reachPromise, 3, none, 5, 114)
abbrev M_X6_hearAsCell : xM := (yX6_hearAsCell, cX6_hearAsCell, 4, (some .int), 1, 22)
abbrev M_X6_hearAsPurse : xM := (yX6_hearAsPurse, cX6_hearAsPurse, 5, (some .int), 2, 45)
abbrev M_X6_hearAsMaker : xM := (yX6_hearAsMaker, cX6_hearAsMaker, 4, (some .int), 4, 92)
abbrev M_X6_hearAsGuard : xM := (yX6_hearAsGuard, cX6_hearAsGuard, 3, (some .int), 1, 22)
abbrev M_X6_hearAsSwitch : xM := (yX6_hearAsSwitch, cX6_hearAsSwitch, 3, (some .int), 2, 44)
abbrev M_X6_hearAsJoiner : xM := (yX6_hearAsJoiner, cX6_hearAsJoiner, 3, (some .int), 1, 22)
abbrev M_X6_hearAsSleeper : xM := (yX6_hearAsSleeper, cX6_hearAsSleeper, 3, (some .int), 2, 44)
abbrev M_X6_hear : xM := (yX6_hear, cX6_hear, 3, (some .int), 5, 115)
abbrev M_X6_hold : xM := (yX6_hold, cX6_hold, 3, none, 4, 94)
abbrev M_X6_takeTurn : xM := (yX6_takeTurn, cX6_takeTurn, 3, none, 6, 137)
abbrev M_X6_deliverFirst : xM := (yX6_deliverFirst, cX6_deliverFirst, 4, (some .int), 7, 159)
abbrev M_X6_deliver : xM := (yX6_deliver, cX6_deliver, 5, (some .int), 8, 182)
abbrev M_X6_firstWireWithLetters : xM := (yX6_firstWireWithLetters, cX6_firstWireWithLetters, 3, (some (.object "PromiseWire$Wire")), 0, 0)
abbrev M_X6_flow : xM := (yX6_flow, cX6_flow, 4, (some .int), 8, 182)
abbrev M_X6_loseFirst : xM := (yX6_loseFirst, cX6_loseFirst, 3, none, 6, 139)
abbrev M_X6_cut : xM := (yX6_cut, cX6_cut, 7, (some .int), 7, 163)
abbrev M_X6_again : xM := (yX6_again, cX6_again, 5, (some .int), 1, 22)
abbrev M_X6_wire : xM := (yX6_wire, cX6_wire, 4, (some .int), 1, 22)
abbrev M_X6_letter : xM := (yX6_letter, cX6_letter, 7, (some .int), 1, 23)
abbrev M_X6_movedBy : xM := (yX6_movedBy, cX6_movedBy, 5, (some .long), 0, 0)
abbrev M_X6_purses : xM := (yX6_purses, cX6_purses, 5, (some .long), 1, 24)
abbrev M_X6_openAtHome : xM := (yX6_openAtHome, cX6_openAtHome, 4, (some .int), 1, 21)
abbrev M_X6_lettersUnderWay : xM := (yX6_lettersUnderWay, cX6_lettersUnderWay, 3, (some .int), 0, 0)
abbrev M_X6_wiresCut : xM := (yX6_wiresCut, cX6_wiresCut, 4, (some .int), 1, 20)
abbrev M_X6_messagesHeld : xM := (yX6_messagesHeld, cX6_messagesHeld, 4, (some .int), 1, 21)
abbrev M_X6_messagesWaiting : xM := (yX6_messagesWaiting, cX6_messagesWaiting, 4, (some .int), 1, 21)
abbrev M_X6_count : xM := (yX6_count, cX6_count, 2, (some .int), 2, 44)
abbrev M_X6_trace : xM := (yX6_trace, cX6_trace, 1, (some .long), 0, 0)
abbrev M_X7_init : xM := (yX7_init, cX7_init, 1, none, 1, 20)
abbrev M_X7_in : xM := (yX7_in, cX7_in, 3, (some .boolean), 0, 0)
abbrev M_X7_isThing : xM := (yX7_isThing, cX7_isThing, 2, (some .boolean), 1, 22)
abbrev M_X7_isPromise : xM := (yX7_isPromise, cX7_isPromise, 2, (some .boolean), 1, 22)
abbrev M_X7_comes : xM := (yX7_comes, cX7_comes, 6, (some .int), 0, 0)
abbrev M_X7_thing : xM := (yX7_thing, cX7_thing, 5, (some .int), 1, 25)
abbrev M_X7_guard : xM := (yX7_guard, cX7_guard, 5, (some .int), 2, 43)
abbrev M_X7_shut : xM := (yX7_shut, cX7_shut, 4, (some .int), 2, 43)
abbrev M_X7_back : xM := (yX7_back, cX7_back, 3, (some .int), 2, 43)
abbrev M_X7_about : xM := (yX7_about, cX7_about, 3, (some .int), 2, 43)
abbrev M_X7_posts : xM := (yX7_posts, cX7_posts, 10, none, 0, 0)
abbrev M_X7_sendsWhen : xM := (yX7_sendsWhen, cX7_sendsWhen, 4, none, 1, 29)
abbrev M_X7_postsWhen : xM := (yX7_postsWhen, cX7_postsWhen, 4, none, 2, 52)
abbrev M_X7_postsWhens : xM := (yX7_postsWhens, cX7_postsWhens, 6, none, 3, 75)
abbrev M_X7_isToBeDone : xM := (yX7_isToBeDone, cX7_isToBeDone, 4, none, 0, 0)
abbrev M_X7_arrives : xM := (yX7_arrives, cX7_arrives, 4, none, 4, 100)
abbrev M_X7_comesBack : xM := (yX7_comesBack, cX7_comesBack, 5, none, 5, 123)
abbrev M_X7_sendsAnswer : xM := (yX7_sendsAnswer, cX7_sendsAnswer, 7, none, 6, 147)
abbrev M_X7_settles : xM := (yX7_settles, cX7_settles, 5, none, 7, 173)
abbrev M_X7_losesMessage : xM := (yX7_losesMessage, cX7_losesMessage, 3, none, 8, 197)
abbrev M_X7_sends : xM := (yX7_sends, cX7_sends, 6, none, 9, 219)
abbrev M_X7_sendsToThing : xM := (yX7_sendsToThing, cX7_sendsToThing, 4, none, 10, 244)
abbrev M_X7_goesOn : xM := (yX7_goesOn, cX7_goesOn, 5, none, 11, 267)
abbrev M_X7_firstKept : xM := (yX7_firstKept, cX7_firstKept, 6, (some .int), 0, 0)
abbrev M_X7_doesOne : xM := (yX7_doesOne, cX7_doesOne, 5, none, 12, 291)
abbrev M_X7_doesAll : xM := (yX7_doesAll, cX7_doesAll, 2, none, 13, 315)
abbrev M_X7_answers : xM := (yX7_answers, cX7_answers, 4, none, 8, 197)
abbrev M_X7_breaks : xM := (yX7_breaks, cX7_breaks, 3, none, 9, 220)
abbrev M_X7_cell : xM := (yX7_cell, cX7_cell, 3, none, 10, 242)
abbrev M_X7_moves : xM := (yX7_moves, cX7_moves, 3, none, 11, 267)
abbrev M_X7_purse : xM := (yX7_purse, cX7_purse, 3, none, 12, 289)
abbrev M_X7_maker : xM := (yX7_maker, cX7_maker, 2, none, 10, 242)
abbrev M_X7_guardHears : xM := (yX7_guardHears, cX7_guardHears, 2, none, 11, 267)
abbrev M_X7_switchHears : xM := (yX7_switchHears, cX7_switchHears, 2, none, 12, 288)
abbrev M_X7_holds : xM := (yX7_holds, cX7_holds, 2, none, 0, 0)
abbrev M_X7_answersAll : xM := (yX7_answersAll, cX7_answersAll, 5, (some .int), 8, 197)
abbrev M_X7_joiner : xM := (yX7_joiner, cX7_joiner, 4, none, 10, 242)
abbrev M_X7_sleeper : xM := (yX7_sleeper, cX7_sleeper, 2, none, 11, 265)
abbrev M_X7_hears : xM := (yX7_hears, cX7_hears, 2, none, 13, 311)
abbrev M_X7_wake : xM := (yX7_wake, cX7_wake, 4, (some .int), 14, 336)
abbrev M_X7_isOf : xM := (yX7_isOf, cX7_isOf, 3, (some .boolean), 0, 0)
abbrev M_X7_ask : xM := (yX7_ask, cX7_ask, 9, (some .int), 14, 336)
abbrev M_X7_stateIn : xM := (yX7_stateIn, cX7_stateIn, 3, (some .int), 0, 0)
abbrev M_X7_valueIn : xM := (yX7_valueIn, cX7_valueIn, 3, (some .int), 0, 0)
abbrev M_X7_when : xM := (yX7_when, cX7_when, 4, (some .int), 3, 75)
abbrev M_X7_state : xM := (yX7_state, cX7_state, 4, (some .int), 2, 43)
abbrev M_X7_waitsFor : xM := (yX7_waitsFor, cX7_waitsFor, 4, (some .int), 0, 0)
abbrev M_X7_promise : xM := (yX7_promise, cX7_promise, 3, (some .int), 2, 43)
abbrev M_X7_firstLetter : xM := (yX7_firstLetter, cX7_firstLetter, 4, (some .int), 0, 0)
abbrev M_X7_takesOut : xM := (yX7_takesOut, cX7_takesOut, 3, none, 0, 0)
abbrev M_X7_comesToThing : xM := (yX7_comesToThing, cX7_comesToThing, 1, none, 14, 332)
abbrev M_X7_comesToPromise : xM := (yX7_comesToPromise, cX7_comesToPromise, 3, none, 12, 291)
abbrev M_X7_delivers : xM := (yX7_delivers, cX7_delivers, 3, (some .int), 15, 352)
abbrev M_X7_areHouses : xM := (yX7_areHouses, cX7_areHouses, 2, (some .boolean), 1, 22)
abbrev M_X7_deliver : xM := (yX7_deliver, cX7_deliver, 4, (some .int), 16, 374)
abbrev M_X7_flow : xM := (yX7_flow, cX7_flow, 5, (some .int), 16, 374)
abbrev M_X7_losesAll : xM := (yX7_losesAll, cX7_losesAll, 5, (some .int), 14, 336)
abbrev M_X7_cut : xM := (yX7_cut, cX7_cut, 6, (some .int), 15, 360)
abbrev M_X7_again : xM := (yX7_again, cX7_again, 3, (some .int), 2, 43)
abbrev M_X7_wire : xM := (yX7_wire, cX7_wire, 5, (some .int), 2, 43)
abbrev M_X7_letterOf : xM := (yX7_letterOf, cX7_letterOf, 6, (some .int), 0, 0)
abbrev M_X7_letter : xM := (yX7_letter, cX7_letter, 7, (some .int), 2, 43)
abbrev M_X7_purses : xM := (yX7_purses, cX7_purses, 4, (some .long), 0, 0)
abbrev M_X7_countWhere : xM := (yX7_countWhere, cX7_countWhere, 4, (some .int), 0, 0)
abbrev M_X7_count : xM := (yX7_count, cX7_count, 4, (some .int), 1, 23)
abbrev M_X7_trace : xM := (yX7_trace, cX7_trace, 1, (some .long), 0, 0)
end
section
theorem wI_obj : Cond.instanceMethod Lib.objectInit ∈ xTb := xTb_of 16 (by decide +kernel) rfl
theorem wC_obj : Cond.code Lib.objectInit ⟨#[0xb1]⟩ 1 none ∈ xTb := xTb_of 17 (by decide +kernel) rfl
theorem wO_X0_1 : Cond.methodLink RX0 1 Lib.objectInit ∈ xTb := xTb_of 31 (by decide +kernel) rfl
theorem wF_X0_13 : Cond.fieldLink RX0 13 (xf_C 0) (xf_T 0 1).2.1 (xf_T 0 1).2.2.1 ∈ xTb := xTb_of 34 (by decide +kernel) rfl
theorem wF_X0_21 : Cond.fieldLink RX0 21 (xf_C 0) (xf_T 0 2).2.1 (xf_T 0 2).2.2.1 ∈ xTb := xTb_of 35 (by decide +kernel) rfl
theorem wF_X0_7 : Cond.fieldLink RX0 7 (xf_C 1) (xf_T 1 12).2.1 (xf_T 1 12).2.2.1 ∈ xTb := xTb_of 281 (by decide +kernel) rfl
theorem wF_X0_18 : Cond.fieldLink RX0 18 (xf_C 0) (xf_T 0 0).2.1 (xf_T 0 0).2.2.1 ∈ xTb := xTb_of 32 (by decide +kernel) rfl
theorem wF_X0_25 : Cond.fieldLink RX0 25 (xf_C 1) (xf_T 1 2).2.1 (xf_T 1 2).2.2.1 ∈ xTb := xTb_of 263 (by decide +kernel) rfl
theorem wO_X1_3 : Cond.methodLink RX1 3 Lib.objectInit ∈ xTb := xTb_of 257 (by decide +kernel) rfl
theorem wF_X1_9 : Cond.fieldLink RX1 9 (xf_C 1) (xf_T 1 1).2.1 (xf_T 1 1).2.2.1 ∈ xTb := xTb_of 260 (by decide +kernel) rfl
theorem wF_X1_15 : Cond.fieldLink RX1 15 (xf_C 1) (xf_T 1 2).2.1 (xf_T 1 2).2.2.1 ∈ xTb := xTb_of 262 (by decide +kernel) rfl
theorem wF_X1_18 : Cond.fieldLink RX1 18 (xf_C 1) (xf_T 1 3).2.1 (xf_T 1 3).2.2.1 ∈ xTb := xTb_of 265 (by decide +kernel) rfl
theorem wF_X1_22 : Cond.fieldLink RX1 22 (xf_C 1) (xf_T 1 8).2.1 (xf_T 1 8).2.2.1 ∈ xTb := xTb_of 275 (by decide +kernel) rfl
theorem wF_X1_25 : Cond.fieldLink RX1 25 (xf_C 1) (xf_T 1 9).2.1 (xf_T 1 9).2.2.1 ∈ xTb := xTb_of 277 (by decide +kernel) rfl
theorem wM_X1_36 : Cond.methodLink RX1 36 yX1_answer ∈ xTb := xTb_of 211 (by decide +kernel) rfl
theorem wI_X1_answer : Cond.instanceMethod yX1_answer ∈ xTb := xTb_of 188 (by decide +kernel) rfl
theorem wS_X1_answer : Cond.selects RX1 yX1_answer yX1_answer ∈ xTb := xTb_of 189 (by decide +kernel) rfl
theorem wF_X1_28 : Cond.fieldLink RX1 28 (xf_C 1) (xf_T 1 6).2.1 (xf_T 1 6).2.2.1 ∈ xTb := xTb_of 271 (by decide +kernel) rfl
theorem wF_X1_31 : Cond.fieldLink RX1 31 (xf_C 3) (xf_T 3 6).2.1 (xf_T 3 6).2.2.1 ∈ xTb := xTb_of 133 (by decide +kernel) rfl
theorem wF_X1_40 : Cond.fieldLink RX1 40 (xf_C 1) (xf_T 1 4).2.1 (xf_T 1 4).2.2.1 ∈ xTb := xTb_of 267 (by decide +kernel) rfl
theorem wF_X1_46 : Cond.fieldLink RX1 46 (xf_C 1) (xf_T 1 5).2.1 (xf_T 1 5).2.2.1 ∈ xTb := xTb_of 269 (by decide +kernel) rfl
theorem wF_X1_50 : Cond.fieldLink RX1 50 (xf_C 2) (xf_T 2 2).2.1 (xf_T 2 2).2.2.1 ∈ xTb := xTb_of 338 (by decide +kernel) rfl
theorem wF_X1_43 : Cond.fieldLink RX1 43 (xf_C 3) (xf_T 3 1).2.1 (xf_T 3 1).2.2.1 ∈ xTb := xTb_of 122 (by decide +kernel) rfl
theorem wF_X1_55 : Cond.fieldLink RX1 55 (xf_C 1) (xf_T 1 7).2.1 (xf_T 1 7).2.2.1 ∈ xTb := xTb_of 273 (by decide +kernel) rfl
theorem wF_X1_59 : Cond.fieldLink RX1 59 (xf_C 1) (xf_T 1 0).2.1 (xf_T 1 0).2.2.1 ∈ xTb := xTb_of 258 (by decide +kernel) rfl
theorem wO_X2_1 : Cond.methodLink RX2 1 Lib.objectInit ∈ xTb := xTb_of 330 (by decide +kernel) rfl
theorem wK_X2_7 : Cond.classLink RX2 7 (xf_C 0) ∈ xTb := xTb_of 331 (by decide +kernel) rfl
theorem wT_X0 : Cond.instantiable (xf_C 0) (xf_N 0) ∈ xTb := xTb_of 27 (by decide +kernel) rfl
theorem wN_X0 : Cond.initialized RX0 ∈ xTb := xTb_of 2 (by decide +kernel) rfl
theorem wI_X0_init : Cond.instanceMethod yX0_init ∈ xTb := xTb_of 29 (by decide +kernel) rfl
theorem wF_X2_10 : Cond.fieldLink RX2 10 (xf_C 2) (xf_T 2 4).2.1 (xf_T 2 4).2.2.1 ∈ xTb := xTb_of 342 (by decide +kernel) rfl
theorem wF_X2_16 : Cond.fieldLink RX2 16 (xf_C 2) (xf_T 2 0).2.1 (xf_T 2 0).2.2.1 ∈ xTb := xTb_of 333 (by decide +kernel) rfl
theorem wF_X2_20 : Cond.fieldLink RX2 20 (xf_C 2) (xf_T 2 1).2.1 (xf_T 2 1).2.2.1 ∈ xTb := xTb_of 335 (by decide +kernel) rfl
theorem wF_X2_23 : Cond.fieldLink RX2 23 (xf_C 2) (xf_T 2 2).2.1 (xf_T 2 2).2.2.1 ∈ xTb := xTb_of 337 (by decide +kernel) rfl
theorem wF_X2_26 : Cond.fieldLink RX2 26 (xf_C 2) (xf_T 2 3).2.1 (xf_T 2 3).2.2.1 ∈ xTb := xTb_of 340 (by decide +kernel) rfl
theorem wF_X2_33 : Cond.fieldLink RX2 33 (xf_C 2) (xf_T 2 7).2.1 (xf_T 2 7).2.2.1 ∈ xTb := xTb_of 348 (by decide +kernel) rfl
theorem wF_X2_30 : Cond.fieldLink RX2 30 (xf_C 2) (xf_T 2 5).2.1 (xf_T 2 5).2.2.1 ∈ xTb := xTb_of 344 (by decide +kernel) rfl
theorem wF_X2_39 : Cond.fieldLink RX2 39 (xf_C 2) (xf_T 2 8).2.1 (xf_T 2 8).2.2.1 ∈ xTb := xTb_of 350 (by decide +kernel) rfl
theorem wF_X2_36 : Cond.fieldLink RX2 36 (xf_C 2) (xf_T 2 6).2.1 (xf_T 2 6).2.2.1 ∈ xTb := xTb_of 346 (by decide +kernel) rfl
theorem wO_X3_1 : Cond.methodLink RX3 1 Lib.objectInit ∈ xTb := xTb_of 116 (by decide +kernel) rfl
theorem wK_X3_7 : Cond.classLink RX3 7 (xf_C 0) ∈ xTb := xTb_of 117 (by decide +kernel) rfl
theorem wF_X3_10 : Cond.fieldLink RX3 10 (xf_C 3) (xf_T 3 5).2.1 (xf_T 3 5).2.2.1 ∈ xTb := xTb_of 130 (by decide +kernel) rfl
theorem wF_X3_16 : Cond.fieldLink RX3 16 (xf_C 3) (xf_T 3 0).2.1 (xf_T 3 0).2.2.1 ∈ xTb := xTb_of 119 (by decide +kernel) rfl
theorem wF_X3_20 : Cond.fieldLink RX3 20 (xf_C 3) (xf_T 3 1).2.1 (xf_T 3 1).2.2.1 ∈ xTb := xTb_of 121 (by decide +kernel) rfl
theorem wF_X3_23 : Cond.fieldLink RX3 23 (xf_C 3) (xf_T 3 2).2.1 (xf_T 3 2).2.2.1 ∈ xTb := xTb_of 124 (by decide +kernel) rfl
theorem wF_X3_26 : Cond.fieldLink RX3 26 (xf_C 3) (xf_T 3 6).2.1 (xf_T 3 6).2.2.1 ∈ xTb := xTb_of 132 (by decide +kernel) rfl
theorem wF_X3_29 : Cond.fieldLink RX3 29 (xf_C 3) (xf_T 3 3).2.1 (xf_T 3 3).2.2.1 ∈ xTb := xTb_of 126 (by decide +kernel) rfl
theorem wF_X3_33 : Cond.fieldLink RX3 33 (xf_C 3) (xf_T 3 4).2.1 (xf_T 3 4).2.2.1 ∈ xTb := xTb_of 128 (by decide +kernel) rfl
theorem wO_X4_1 : Cond.methodLink RX4 1 Lib.objectInit ∈ xTb := xTb_of 379 (by decide +kernel) rfl
theorem wF_X4_7 : Cond.fieldLink RX4 7 (xf_C 4) (xf_T 4 0).2.1 (xf_T 4 0).2.2.1 ∈ xTb := xTb_of 380 (by decide +kernel) rfl
theorem wF_X4_13 : Cond.fieldLink RX4 13 (xf_C 4) (xf_T 4 1).2.1 (xf_T 4 1).2.2.1 ∈ xTb := xTb_of 382 (by decide +kernel) rfl
theorem wF_X4_17 : Cond.fieldLink RX4 17 (xf_C 4) (xf_T 4 2).2.1 (xf_T 4 2).2.2.1 ∈ xTb := xTb_of 384 (by decide +kernel) rfl
theorem wO_X5_1 : Cond.methodLink RX5 1 Lib.objectInit ∈ xTb := xTb_of 48 (by decide +kernel) rfl
theorem wK_X5_7 : Cond.classLink RX5 7 (xf_C 0) ∈ xTb := xTb_of 49 (by decide +kernel) rfl
theorem wF_X5_10 : Cond.fieldLink RX5 10 (xf_C 5) (xf_T 5 2).2.1 (xf_T 5 2).2.2.1 ∈ xTb := xTb_of 55 (by decide +kernel) rfl
theorem wF_X5_16 : Cond.fieldLink RX5 16 (xf_C 5) (xf_T 5 0).2.1 (xf_T 5 0).2.2.1 ∈ xTb := xTb_of 51 (by decide +kernel) rfl
theorem wF_X5_20 : Cond.fieldLink RX5 20 (xf_C 5) (xf_T 5 1).2.1 (xf_T 5 1).2.2.1 ∈ xTb := xTb_of 53 (by decide +kernel) rfl
theorem wF_X6_29 : Cond.fieldLink RX6 29 (xf_C 6) (xf_T 6 3).2.1 (xf_T 6 3).2.2.1 ∈ xTb := xTb_of 70 (by decide +kernel) rfl
theorem wK_X6_27 : Cond.classLink RX6 27 (xf_C 5) ∈ xTb := xTb_of 24 (by decide +kernel) rfl
theorem wT_X5 : Cond.instantiable (xf_C 5) (xf_N 5) ∈ xTb := xTb_of 44 (by decide +kernel) rfl
theorem wN_X5 : Cond.initialized RX5 ∈ xTb := xTb_of 3 (by decide +kernel) rfl
theorem wM_X6_40 : Cond.methodLink RX6 40 yX5_init ∈ xTb := xTb_of 45 (by decide +kernel) rfl
theorem wI_X5_init : Cond.instanceMethod yX5_init ∈ xTb := xTb_of 46 (by decide +kernel) rfl
theorem wO_X6_1 : Cond.methodLink RX6 1 Lib.objectInit ∈ xTb := xTb_of 15 (by decide +kernel) rfl
theorem wK_X6_9 : Cond.classLink RX6 9 (xf_C 3) ∈ xTb := xTb_of 18 (by decide +kernel) rfl
theorem wF_X6_11 : Cond.fieldLink RX6 11 (xf_C 6) (xf_T 6 0).2.1 (xf_T 6 0).2.2.1 ∈ xTb := xTb_of 67 (by decide +kernel) rfl
theorem wK_X6_15 : Cond.classLink RX6 15 (xf_C 2) ∈ xTb := xTb_of 20 (by decide +kernel) rfl
theorem wF_X6_17 : Cond.fieldLink RX6 17 (xf_C 6) (xf_T 6 1).2.1 (xf_T 6 1).2.2.1 ∈ xTb := xTb_of 68 (by decide +kernel) rfl
theorem wK_X6_21 : Cond.classLink RX6 21 (xf_C 4) ∈ xTb := xTb_of 22 (by decide +kernel) rfl
theorem wF_X6_23 : Cond.fieldLink RX6 23 (xf_C 6) (xf_T 6 2).2.1 (xf_T 6 2).2.2.1 ∈ xTb := xTb_of 69 (by decide +kernel) rfl
theorem wK_X6_33 : Cond.classLink RX6 33 (xf_C 0) ∈ xTb := xTb_of 26 (by decide +kernel) rfl
theorem wF_X6_36 : Cond.fieldLink RX6 36 (xf_C 6) (xf_T 6 4).2.1 (xf_T 6 4).2.2.1 ∈ xTb := xTb_of 71 (by decide +kernel) rfl
theorem wF_X6_228 : Cond.fieldLink RX6 228 (xf_C 6) (xf_T 6 5).2.1 (xf_T 6 5).2.2.1 ∈ xTb := xTb_of 72 (by decide +kernel) rfl
theorem wT_X3 : Cond.instantiable (xf_C 3) (xf_N 3) ∈ xTb := xTb_of 112 (by decide +kernel) rfl
theorem wN_X3 : Cond.initialized RX3 ∈ xTb := xTb_of 5 (by decide +kernel) rfl
theorem wM_X6_257 : Cond.methodLink RX6 257 yX3_init ∈ xTb := xTb_of 113 (by decide +kernel) rfl
theorem wI_X3_init : Cond.instanceMethod yX3_init ∈ xTb := xTb_of 114 (by decide +kernel) rfl
theorem wM_X6_43 : Cond.methodLink RX6 43 yX6_isHouse ∈ xTb := xTb_of 102 (by decide +kernel) rfl
theorem wZ_X6_isHouse : Cond.static yX6_isHouse ∈ xTb := xTb_of 103 (by decide +kernel) rfl
theorem wM_X6_47 : Cond.methodLink RX6 47 yX6_mayBegin ∈ xTb := xTb_of 105 (by decide +kernel) rfl
theorem wZ_X6_mayBegin : Cond.static yX6_mayBegin ∈ xTb := xTb_of 106 (by decide +kernel) rfl
theorem wM_X6_51 : Cond.methodLink RX6 51 yX6_addThing ∈ xTb := xTb_of 108 (by decide +kernel) rfl
theorem wI_X6_addThing : Cond.instanceMethod yX6_addThing ∈ xTb := xTb_of 110 (by decide +kernel) rfl
theorem wS_X6_addThing : Cond.selects RX6 yX6_addThing yX6_addThing ∈ xTb := xTb_ofS 0 (by decide +kernel) rfl
theorem wM_X6_55 : Cond.methodLink RX6 55 yX6_thingAt ∈ xTb := xTb_of 160 (by decide +kernel) rfl
theorem wI_X6_thingAt : Cond.instanceMethod yX6_thingAt ∈ xTb := xTb_of 162 (by decide +kernel) rfl
theorem wS_X6_thingAt : Cond.selects RX6 yX6_thingAt yX6_thingAt ∈ xTb := xTb_ofS 1 (by decide +kernel) rfl
theorem wF_X6_63 : Cond.fieldLink RX6 63 (xf_C 3) (xf_T 3 7).2.1 (xf_T 3 7).2.2.1 ∈ xTb := xTb_of 135 (by decide +kernel) rfl
theorem wM_X6_67 : Cond.methodLink RX6 67 yX6_oneIf ∈ xTb := xTb_of 168 (by decide +kernel) rfl
theorem wZ_X6_oneIf : Cond.static yX6_oneIf ∈ xTb := xTb_of 169 (by decide +kernel) rfl
theorem wF_X6_59 : Cond.fieldLink RX6 59 (xf_C 3) (xf_T 3 2).2.1 (xf_T 3 2).2.2.1 ∈ xTb := xTb_of 125 (by decide +kernel) rfl
theorem wF_X6_71 : Cond.fieldLink RX6 71 (xf_C 3) (xf_T 3 8).2.1 (xf_T 3 8).2.2.1 ∈ xTb := xTb_of 136 (by decide +kernel) rfl
theorem wF_X6_170 : Cond.fieldLink RX6 170 (xf_C 1) (xf_T 1 11).2.1 (xf_T 1 11).2.2.1 ∈ xTb := xTb_of 280 (by decide +kernel) rfl
theorem wM_X6_176 : Cond.methodLink RX6 176 yX6_wireAt ∈ xTb := xTb_of 203 (by decide +kernel) rfl
theorem wI_X6_wireAt : Cond.instanceMethod yX6_wireAt ∈ xTb := xTb_of 205 (by decide +kernel) rfl
theorem wS_X6_wireAt : Cond.selects RX6 yX6_wireAt yX6_wireAt ∈ xTb := xTb_ofS 5 (by decide +kernel) rfl
theorem wF_X6_197 : Cond.fieldLink RX6 197 (xf_C 5) (xf_T 5 3).2.1 (xf_T 5 3).2.2.1 ∈ xTb := xTb_of 57 (by decide +kernel) rfl
theorem wF_X6_200 : Cond.fieldLink RX6 200 (xf_C 5) (xf_T 5 2).2.1 (xf_T 5 2).2.2.1 ∈ xTb := xTb_of 56 (by decide +kernel) rfl
theorem wM_X6_313 : Cond.methodLink RX6 313 yX0_add ∈ xTb := xTb_of 195 (by decide +kernel) rfl
theorem wI_X0_add : Cond.instanceMethod yX0_add ∈ xTb := xTb_of 196 (by decide +kernel) rfl
theorem wS_X0_add : Cond.selects RX0 yX0_add yX0_add ∈ xTb := xTb_of 197 (by decide +kernel) rfl
theorem wF_X6_173 : Cond.fieldLink RX6 173 (xf_C 1) (xf_T 1 10).2.1 (xf_T 1 10).2.2.1 ∈ xTb := xTb_of 279 (by decide +kernel) rfl
theorem wF_X6_132 : Cond.fieldLink RX6 132 (xf_C 1) (xf_T 1 0).2.1 (xf_T 1 0).2.2.1 ∈ xTb := xTb_of 259 (by decide +kernel) rfl
theorem wF_X6_213 : Cond.fieldLink RX6 213 (xf_C 1) (xf_T 1 7).2.1 (xf_T 1 7).2.2.1 ∈ xTb := xTb_of 274 (by decide +kernel) rfl
theorem wF_X6_160 : Cond.fieldLink RX6 160 (xf_C 2) (xf_T 2 2).2.1 (xf_T 2 2).2.2.1 ∈ xTb := xTb_of 339 (by decide +kernel) rfl
theorem wM_X6_324 : Cond.methodLink RX6 324 yX6_post ∈ xTb := xTb_of 199 (by decide +kernel) rfl
theorem wI_X6_post : Cond.instanceMethod yX6_post ∈ xTb := xTb_of 201 (by decide +kernel) rfl
theorem wS_X6_post : Cond.selects RX6 yX6_post yX6_post ∈ xTb := xTb_ofS 4 (by decide +kernel) rfl
theorem wM_X6_328 : Cond.methodLink RX6 328 yX1_breakByCut ∈ xTb := xTb_of 207 (by decide +kernel) rfl
theorem wI_X1_breakByCut : Cond.instanceMethod yX1_breakByCut ∈ xTb := xTb_of 208 (by decide +kernel) rfl
theorem wS_X1_breakByCut : Cond.selects RX1 yX1_breakByCut yX1_breakByCut ∈ xTb := xTb_of 209 (by decide +kernel) rfl
theorem wF_X6_97 : Cond.fieldLink RX6 97 (xf_C 3) (xf_T 3 5).2.1 (xf_T 3 5).2.2.1 ∈ xTb := xTb_of 131 (by decide +kernel) rfl
theorem wM_X6_320 : Cond.methodLink RX6 320 yX0_take ∈ xTb := xTb_of 183 (by decide +kernel) rfl
theorem wI_X0_take : Cond.instanceMethod yX0_take ∈ xTb := xTb_of 184 (by decide +kernel) rfl
theorem wS_X0_take : Cond.selects RX0 yX0_take yX0_take ∈ xTb := xTb_of 185 (by decide +kernel) rfl
theorem wM_X6_282 : Cond.methodLink RX6 282 yX1_answer ∈ xTb := xTb_of 187 (by decide +kernel) rfl
theorem wF_X6_81 : Cond.fieldLink RX6 81 (xf_C 3) (xf_T 3 1).2.1 (xf_T 3 1).2.2.1 ∈ xTb := xTb_of 123 (by decide +kernel) rfl
theorem wM_X6_310 : Cond.methodLink RX6 310 yX6_settle ∈ xTb := xTb_of 191 (by decide +kernel) rfl
theorem wI_X6_settle : Cond.instanceMethod yX6_settle ∈ xTb := xTb_of 193 (by decide +kernel) rfl
theorem wS_X6_settle : Cond.selects RX6 yX6_settle yX6_settle ∈ xTb := xTb_ofS 3 (by decide +kernel) rfl
theorem wF_X6_100 : Cond.fieldLink RX6 100 (xf_C 0) (xf_T 0 2).2.1 (xf_T 0 2).2.2.1 ∈ xTb := xTb_of 36 (by decide +kernel) rfl
theorem wM_X6_125 : Cond.methodLink RX6 125 yX1_destination ∈ xTb := xTb_of 228 (by decide +kernel) rfl
theorem wI_X1_destination : Cond.instanceMethod yX1_destination ∈ xTb := xTb_of 229 (by decide +kernel) rfl
theorem wS_X1_destination : Cond.selects RX1 yX1_destination yX1_destination ∈ xTb := xTb_of 230 (by decide +kernel) rfl
theorem wF_X6_335 : Cond.fieldLink RX6 335 (xf_C 2) (xf_T 2 5).2.1 (xf_T 2 5).2.2.1 ∈ xTb := xTb_of 345 (by decide +kernel) rfl
theorem wF_X6_338 : Cond.fieldLink RX6 338 (xf_C 2) (xf_T 2 6).2.1 (xf_T 2 6).2.2.1 ∈ xTb := xTb_of 347 (by decide +kernel) rfl
theorem wF_X6_121 : Cond.fieldLink RX6 121 (xf_C 1) (xf_T 1 5).2.1 (xf_T 1 5).2.2.1 ∈ xTb := xTb_of 270 (by decide +kernel) rfl
theorem wF_X6_118 : Cond.fieldLink RX6 118 (xf_C 1) (xf_T 1 4).2.1 (xf_T 1 4).2.2.1 ∈ xTb := xTb_of 268 (by decide +kernel) rfl
theorem wM_X6_135 : Cond.methodLink RX6 135 yX6_send ∈ xTb := xTb_of 224 (by decide +kernel) rfl
theorem wI_X6_send : Cond.instanceMethod yX6_send ∈ xTb := xTb_of 226 (by decide +kernel) rfl
theorem wS_X6_send : Cond.selects RX6 yX6_send yX6_send ∈ xTb := xTb_ofS 9 (by decide +kernel) rfl
theorem wM_X6_115 : Cond.methodLink RX6 115 yX1_init ∈ xTb := xTb_of 254 (by decide +kernel) rfl
theorem wI_X1_init : Cond.instanceMethod yX1_init ∈ xTb := xTb_of 255 (by decide +kernel) rfl
theorem wF_X6_360 : Cond.fieldLink RX6 360 (xf_C 4) (xf_T 4 2).2.1 (xf_T 4 2).2.2.1 ∈ xTb := xTb_of 385 (by decide +kernel) rfl
theorem wF_X6_359 : Cond.fieldLink RX6 359 (xf_C 4) (xf_T 4 1).2.1 (xf_T 4 1).2.2.1 ∈ xTb := xTb_of 383 (by decide +kernel) rfl
theorem wK_X6_113 : Cond.classLink RX6 113 (xf_C 1) ∈ xTb := xTb_of 252 (by decide +kernel) rfl
theorem wT_X1 : Cond.instantiable (xf_C 1) (xf_N 1) ∈ xTb := xTb_of 253 (by decide +kernel) rfl
theorem wN_X1 : Cond.initialized RX1 ∈ xTb := xTb_of 6 (by decide +kernel) rfl
theorem wF_X6_358 : Cond.fieldLink RX6 358 (xf_C 4) (xf_T 4 0).2.1 (xf_T 4 0).2.2.1 ∈ xTb := xTb_of 381 (by decide +kernel) rfl
theorem wM_X6_154 : Cond.methodLink RX6 154 yX2_valueIn ∈ xTb := xTb_of 244 (by decide +kernel) rfl
theorem wI_X2_valueIn : Cond.instanceMethod yX2_valueIn ∈ xTb := xTb_of 245 (by decide +kernel) rfl
theorem wS_X2_valueIn : Cond.selects RX2 yX2_valueIn yX2_valueIn ∈ xTb := xTb_of 246 (by decide +kernel) rfl
theorem wM_X6_146 : Cond.methodLink RX6 146 yX2_howIn ∈ xTb := xTb_of 248 (by decide +kernel) rfl
theorem wI_X2_howIn : Cond.instanceMethod yX2_howIn ∈ xTb := xTb_of 249 (by decide +kernel) rfl
theorem wS_X2_howIn : Cond.selects RX2 yX2_howIn yX2_howIn ∈ xTb := xTb_of 250 (by decide +kernel) rfl
theorem wF_X6_140 : Cond.fieldLink RX6 140 (xf_C 6) (xf_T 6 7).2.1 (xf_T 6 7).2.2.1 ∈ xTb := xTb_of 74 (by decide +kernel) rfl
theorem wM_X6_150 : Cond.methodLink RX6 150 yX6_postWhen ∈ xTb := xTb_of 240 (by decide +kernel) rfl
theorem wI_X6_postWhen : Cond.instanceMethod yX6_postWhen ∈ xTb := xTb_of 242 (by decide +kernel) rfl
theorem wS_X6_postWhen : Cond.selects RX6 yX6_postWhen yX6_postWhen ∈ xTb := xTb_ofS 12 (by decide +kernel) rfl
theorem wF_X6_216 : Cond.fieldLink RX6 216 (xf_C 1) (xf_T 1 8).2.1 (xf_T 1 8).2.2.1 ∈ xTb := xTb_of 276 (by decide +kernel) rfl
theorem wF_X6_352 : Cond.fieldLink RX6 352 (xf_C 2) (xf_T 2 7).2.1 (xf_T 2 7).2.2.1 ∈ xTb := xTb_of 349 (by decide +kernel) rfl
theorem wF_X6_222 : Cond.fieldLink RX6 222 (xf_C 1) (xf_T 1 9).2.1 (xf_T 1 9).2.2.1 ∈ xTb := xTb_of 278 (by decide +kernel) rfl
theorem wF_X6_355 : Cond.fieldLink RX6 355 (xf_C 2) (xf_T 2 8).2.1 (xf_T 2 8).2.2.1 ∈ xTb := xTb_of 351 (by decide +kernel) rfl
theorem wF_X6_157 : Cond.fieldLink RX6 157 (xf_C 2) (xf_T 2 1).2.1 (xf_T 2 1).2.2.1 ∈ xTb := xTb_of 336 (by decide +kernel) rfl
theorem wM_X6_348 : Cond.methodLink RX6 348 yX6_postWhens ∈ xTb := xTb_of 236 (by decide +kernel) rfl
theorem wI_X6_postWhens : Cond.instanceMethod yX6_postWhens ∈ xTb := xTb_of 238 (by decide +kernel) rfl
theorem wS_X6_postWhens : Cond.selects RX6 yX6_postWhens yX6_postWhens ∈ xTb := xTb_ofS 11 (by decide +kernel) rfl
theorem wM_X6_345 : Cond.methodLink RX6 345 yX6_tellAsker ∈ xTb := xTb_of 232 (by decide +kernel) rfl
theorem wI_X6_tellAsker : Cond.instanceMethod yX6_tellAsker ∈ xTb := xTb_of 234 (by decide +kernel) rfl
theorem wS_X6_tellAsker : Cond.selects RX6 yX6_tellAsker yX6_tellAsker ∈ xTb := xTb_ofS 10 (by decide +kernel) rfl
theorem wF_X6_163 : Cond.fieldLink RX6 163 (xf_C 2) (xf_T 2 4).2.1 (xf_T 2 4).2.2.1 ∈ xTb := xTb_of 343 (by decide +kernel) rfl
theorem wM_X6_341 : Cond.methodLink RX6 341 yX6_sendOn ∈ xTb := xTb_of 220 (by decide +kernel) rfl
theorem wI_X6_sendOn : Cond.instanceMethod yX6_sendOn ∈ xTb := xTb_of 222 (by decide +kernel) rfl
theorem wS_X6_sendOn : Cond.selects RX6 yX6_sendOn yX6_sendOn ∈ xTb := xTb_ofS 8 (by decide +kernel) rfl
theorem wM_X6_331 : Cond.methodLink RX6 331 yX6_fulfil ∈ xTb := xTb_of 216 (by decide +kernel) rfl
theorem wI_X6_fulfil : Cond.instanceMethod yX6_fulfil ∈ xTb := xTb_of 218 (by decide +kernel) rfl
theorem wS_X6_fulfil : Cond.selects RX6 yX6_fulfil yX6_fulfil ∈ xTb := xTb_ofS 7 (by decide +kernel) rfl
theorem wM_X6_74 : Cond.methodLink RX6 74 yX6_answerHeld ∈ xTb := xTb_of 179 (by decide +kernel) rfl
theorem wI_X6_answerHeld : Cond.instanceMethod yX6_answerHeld ∈ xTb := xTb_of 181 (by decide +kernel) rfl
theorem wS_X6_answerHeld : Cond.selects RX6 yX6_answerHeld yX6_answerHeld ∈ xTb := xTb_ofS 2 (by decide +kernel) rfl
theorem wM_X6_78 : Cond.methodLink RX6 78 yX6_doAll ∈ xTb := xTb_of 212 (by decide +kernel) rfl
theorem wI_X6_doAll : Cond.instanceMethod yX6_doAll ∈ xTb := xTb_of 214 (by decide +kernel) rfl
theorem wS_X6_doAll : Cond.selects RX6 yX6_doAll yX6_doAll ∈ xTb := xTb_ofS 6 (by decide +kernel) rfl
theorem wF_X6_84 : Cond.fieldLink RX6 84 (xf_C 3) (xf_T 3 6).2.1 (xf_T 3 6).2.2.1 ∈ xTb := xTb_of 134 (by decide +kernel) rfl
theorem wF_X6_87 : Cond.fieldLink RX6 87 (xf_C 3) (xf_T 3 3).2.1 (xf_T 3 3).2.2.1 ∈ xTb := xTb_of 127 (by decide +kernel) rfl
theorem wF_X6_91 : Cond.fieldLink RX6 91 (xf_C 3) (xf_T 3 0).2.1 (xf_T 3 0).2.2.1 ∈ xTb := xTb_of 120 (by decide +kernel) rfl
theorem wF_X6_94 : Cond.fieldLink RX6 94 (xf_C 3) (xf_T 3 4).2.1 (xf_T 3 4).2.2.1 ∈ xTb := xTb_of 129 (by decide +kernel) rfl
theorem wF_X6_110 : Cond.fieldLink RX6 110 (xf_C 6) (xf_T 6 6).2.1 (xf_T 6 6).2.2.1 ∈ xTb := xTb_of 73 (by decide +kernel) rfl
theorem wT_X2 : Cond.instantiable (xf_C 2) (xf_N 2) ∈ xTb := xTb_of 326 (by decide +kernel) rfl
theorem wN_X2 : Cond.initialized RX2 ∈ xTb := xTb_of 7 (by decide +kernel) rfl
theorem wM_X6_129 : Cond.methodLink RX6 129 yX2_init ∈ xTb := xTb_of 327 (by decide +kernel) rfl
theorem wI_X2_init : Cond.instanceMethod yX2_init ∈ xTb := xTb_of 328 (by decide +kernel) rfl
theorem wF_X6_139 : Cond.fieldLink RX6 139 (xf_C 2) (xf_T 2 0).2.1 (xf_T 2 0).2.2.1 ∈ xTb := xTb_of 334 (by decide +kernel) rfl
theorem wM_X6_107 : Cond.methodLink RX6 107 yX2_isKnownIn ∈ xTb := xTb_of 322 (by decide +kernel) rfl
theorem wI_X2_isKnownIn : Cond.instanceMethod yX2_isKnownIn ∈ xTb := xTb_of 323 (by decide +kernel) rfl
theorem wS_X2_isKnownIn : Cond.selects RX2 yX2_isKnownIn yX2_isKnownIn ∈ xTb := xTb_of 324 (by decide +kernel) rfl
theorem wM_X6_103 : Cond.methodLink RX6 103 yX6_promiseAt ∈ xTb := xTb_of 318 (by decide +kernel) rfl
theorem wI_X6_promiseAt : Cond.instanceMethod yX6_promiseAt ∈ xTb := xTb_of 320 (by decide +kernel) rfl
theorem wS_X6_promiseAt : Cond.selects RX6 yX6_promiseAt yX6_promiseAt ∈ xTb := xTb_ofS 13 (by decide +kernel) rfl
theorem wT_X4 : Cond.instantiable (xf_C 4) (xf_N 4) ∈ xTb := xTb_of 375 (by decide +kernel) rfl
theorem wN_X4 : Cond.initialized RX4 ∈ xTb := xTb_of 8 (by decide +kernel) rfl
theorem wM_X6_143 : Cond.methodLink RX6 143 yX4_init ∈ xTb := xTb_of 376 (by decide +kernel) rfl
theorem wI_X4_init : Cond.instanceMethod yX4_init ∈ xTb := xTb_of 377 (by decide +kernel) rfl
theorem wF_X6_166 : Cond.fieldLink RX6 166 (xf_C 2) (xf_T 2 3).2.1 (xf_T 2 3).2.2.1 ∈ xTb := xTb_of 341 (by decide +kernel) rfl
theorem wF_X6_253 : Cond.fieldLink RX6 253 (xf_C 6) (xf_T 6 9).2.1 (xf_T 6 9).2.2.1 ∈ xTb := xTb_of 76 (by decide +kernel) rfl
theorem wF_X6_219 : Cond.fieldLink RX6 219 (xf_C 1) (xf_T 1 1).2.1 (xf_T 1 1).2.2.1 ∈ xTb := xTb_of 261 (by decide +kernel) rfl
theorem wF_X6_225 : Cond.fieldLink RX6 225 (xf_C 1) (xf_T 1 2).2.1 (xf_T 1 2).2.2.1 ∈ xTb := xTb_of 264 (by decide +kernel) rfl
theorem wF_X6_287 : Cond.fieldLink RX6 287 (xf_C 1) (xf_T 1 3).2.1 (xf_T 1 3).2.2.1 ∈ xTb := xTb_of 266 (by decide +kernel) rfl
theorem wF_X6_290 : Cond.fieldLink RX6 290 (xf_C 1) (xf_T 1 6).2.1 (xf_T 1 6).2.2.1 ∈ xTb := xTb_of 272 (by decide +kernel) rfl
theorem wM_X6_279 : Cond.methodLink RX6 279 yX6_hearAsCell ∈ xTb := xTb_of 434 (by decide +kernel) rfl
theorem wI_X6_hearAsCell : Cond.instanceMethod yX6_hearAsCell ∈ xTb := xTb_of 436 (by decide +kernel) rfl
theorem wS_X6_hearAsCell : Cond.selects RX6 yX6_hearAsCell yX6_hearAsCell ∈ xTb := xTb_ofS 20 (by decide +kernel) rfl
theorem wL_X6_285 : Cond.constantLong RX6 285 10 ∈ xTb := xTb_of 433 (by decide +kernel) rfl
theorem wL_X6_293 : Cond.constantLong RX6 293 100 ∈ xTb := xTb_of 442 (by decide +kernel) rfl
theorem wL_X6_295 : Cond.constantLong RX6 295 1000 ∈ xTb := xTb_of 447 (by decide +kernel) rfl
theorem wL_X6_297 : Cond.constantLong RX6 297 10000 ∈ xTb := xTb_of 452 (by decide +kernel) rfl
theorem wM_X6_267 : Cond.methodLink RX6 267 yX6_hearAsGuard ∈ xTb := xTb_of 443 (by decide +kernel) rfl
theorem wI_X6_hearAsGuard : Cond.instanceMethod yX6_hearAsGuard ∈ xTb := xTb_of 445 (by decide +kernel) rfl
theorem wS_X6_hearAsGuard : Cond.selects RX6 yX6_hearAsGuard yX6_hearAsGuard ∈ xTb := xTb_ofS 22 (by decide +kernel) rfl
theorem wL_X6_299 : Cond.constantLong RX6 299 100000 ∈ xTb := xTb_of 457 (by decide +kernel) rfl
theorem wL_X6_301 : Cond.constantLong RX6 301 1000000 ∈ xTb := xTb_of 462 (by decide +kernel) rfl
theorem wM_X6_273 : Cond.methodLink RX6 273 yX6_hearAsJoiner ∈ xTb := xTb_of 453 (by decide +kernel) rfl
theorem wI_X6_hearAsJoiner : Cond.instanceMethod yX6_hearAsJoiner ∈ xTb := xTb_of 455 (by decide +kernel) rfl
theorem wS_X6_hearAsJoiner : Cond.selects RX6 yX6_hearAsJoiner yX6_hearAsJoiner ∈ xTb := xTb_ofS 24 (by decide +kernel) rfl
theorem wM_X6_260 : Cond.methodLink RX6 260 yX6_hearAsPurse ∈ xTb := xTb_of 429 (by decide +kernel) rfl
theorem wI_X6_hearAsPurse : Cond.instanceMethod yX6_hearAsPurse ∈ xTb := xTb_of 431 (by decide +kernel) rfl
theorem wS_X6_hearAsPurse : Cond.selects RX6 yX6_hearAsPurse yX6_hearAsPurse ∈ xTb := xTb_ofS 19 (by decide +kernel) rfl
theorem wM_X6_264 : Cond.methodLink RX6 264 yX6_hearAsMaker ∈ xTb := xTb_of 438 (by decide +kernel) rfl
theorem wI_X6_hearAsMaker : Cond.instanceMethod yX6_hearAsMaker ∈ xTb := xTb_of 440 (by decide +kernel) rfl
theorem wS_X6_hearAsMaker : Cond.selects RX6 yX6_hearAsMaker yX6_hearAsMaker ∈ xTb := xTb_ofS 21 (by decide +kernel) rfl
theorem wM_X6_270 : Cond.methodLink RX6 270 yX6_hearAsSwitch ∈ xTb := xTb_of 448 (by decide +kernel) rfl
theorem wI_X6_hearAsSwitch : Cond.instanceMethod yX6_hearAsSwitch ∈ xTb := xTb_of 450 (by decide +kernel) rfl
theorem wS_X6_hearAsSwitch : Cond.selects RX6 yX6_hearAsSwitch yX6_hearAsSwitch ∈ xTb := xTb_ofS 23 (by decide +kernel) rfl
theorem wM_X6_276 : Cond.methodLink RX6 276 yX6_hearAsSleeper ∈ xTb := xTb_of 458 (by decide +kernel) rfl
theorem wI_X6_hearAsSleeper : Cond.instanceMethod yX6_hearAsSleeper ∈ xTb := xTb_of 460 (by decide +kernel) rfl
theorem wS_X6_hearAsSleeper : Cond.selects RX6 yX6_hearAsSleeper yX6_hearAsSleeper ∈ xTb := xTb_ofS 25 (by decide +kernel) rfl
theorem wM_X6_317 : Cond.methodLink RX6 317 yX0_sumOfNs ∈ xTb := xTb_of 467 (by decide +kernel) rfl
theorem wI_X0_sumOfNs : Cond.instanceMethod yX0_sumOfNs ∈ xTb := xTb_of 468 (by decide +kernel) rfl
theorem wS_X0_sumOfNs : Cond.selects RX0 yX0_sumOfNs yX0_sumOfNs ∈ xTb := xTb_of 469 (by decide +kernel) rfl
theorem wF_X6_250 : Cond.fieldLink RX6 250 (xf_C 6) (xf_T 6 8).2.1 (xf_T 6 8).2.2.1 ∈ xTb := xTb_of 75 (by decide +kernel) rfl
theorem wM_X6_303 : Cond.methodLink RX6 303 yX6_hear ∈ xTb := xTb_of 425 (by decide +kernel) rfl
theorem wI_X6_hear : Cond.instanceMethod yX6_hear ∈ xTb := xTb_of 427 (by decide +kernel) rfl
theorem wS_X6_hear : Cond.selects RX6 yX6_hear yX6_hear ∈ xTb := xTb_ofS 18 (by decide +kernel) rfl
theorem wM_X6_306 : Cond.methodLink RX6 306 yX6_hold ∈ xTb := xTb_of 463 (by decide +kernel) rfl
theorem wI_X6_hold : Cond.instanceMethod yX6_hold ∈ xTb := xTb_of 465 (by decide +kernel) rfl
theorem wS_X6_hold : Cond.selects RX6 yX6_hold yX6_hold ∈ xTb := xTb_ofS 26 (by decide +kernel) rfl
theorem wM_X6_210 : Cond.methodLink RX6 210 yX1_whatLetter ∈ xTb := xTb_of 409 (by decide +kernel) rfl
theorem wI_X1_whatLetter : Cond.instanceMethod yX1_whatLetter ∈ xTb := xTb_of 410 (by decide +kernel) rfl
theorem wS_X1_whatLetter : Cond.selects RX1 yX1_whatLetter yX1_whatLetter ∈ xTb := xTb_of 411 (by decide +kernel) rfl
theorem wM_X6_372 : Cond.methodLink RX6 372 yX6_takeTurn ∈ xTb := xTb_of 421 (by decide +kernel) rfl
theorem wI_X6_takeTurn : Cond.instanceMethod yX6_takeTurn ∈ xTb := xTb_of 423 (by decide +kernel) rfl
theorem wS_X6_takeTurn : Cond.selects RX6 yX6_takeTurn yX6_takeTurn ∈ xTb := xTb_ofS 17 (by decide +kernel) rfl
theorem wM_X6_369 : Cond.methodLink RX6 369 yX6_reachPromise ∈ xTb := xTb_of 417 (by decide +kernel) rfl
theorem wI_X6_reachPromise : Cond.instanceMethod yX6_reachPromise ∈ xTb := xTb_of 419 (by decide +kernel) rfl
theorem wS_X6_reachPromise : Cond.selects RX6 yX6_reachPromise yX6_reachPromise ∈ xTb := xTb_ofS 16 (by decide +kernel) rfl
theorem wF_X6_363 : Cond.fieldLink RX6 363 (xf_C 5) (xf_T 5 1).2.1 (xf_T 5 1).2.2.1 ∈ xTb := xTb_of 54 (by decide +kernel) rfl
theorem wM_X6_366 : Cond.methodLink RX6 366 yX6_receiveAnswer ∈ xTb := xTb_of 413 (by decide +kernel) rfl
theorem wI_X6_receiveAnswer : Cond.instanceMethod yX6_receiveAnswer ∈ xTb := xTb_of 415 (by decide +kernel) rfl
theorem wS_X6_receiveAnswer : Cond.selects RX6 yX6_receiveAnswer yX6_receiveAnswer ∈ xTb := xTb_ofS 15 (by decide +kernel) rfl
theorem wM_X6_180 : Cond.methodLink RX6 180 yX6_deliverFirst ∈ xTb := xTb_of 405 (by decide +kernel) rfl
theorem wI_X6_deliverFirst : Cond.instanceMethod yX6_deliverFirst ∈ xTb := xTb_of 407 (by decide +kernel) rfl
theorem wS_X6_deliverFirst : Cond.selects RX6 yX6_deliverFirst yX6_deliverFirst ∈ xTb := xTb_ofS 14 (by decide +kernel) rfl
theorem wM_X6_184 : Cond.methodLink RX6 184 yX6_firstWireWithLetters ∈ xTb := xTb_of 475 (by decide +kernel) rfl
theorem wI_X6_firstWireWithLetters : Cond.instanceMethod yX6_firstWireWithLetters ∈ xTb := xTb_of 477 (by decide +kernel) rfl
theorem wS_X6_firstWireWithLetters : Cond.selects RX6 yX6_firstWireWithLetters yX6_firstWireWithLetters ∈ xTb := xTb_ofS 27 (by decide +kernel) rfl
theorem wF_X6_375 : Cond.fieldLink RX6 375 (xf_C 5) (xf_T 5 0).2.1 (xf_T 5 0).2.2.1 ∈ xTb := xTb_of 52 (by decide +kernel) rfl
theorem wM_X6_202 : Cond.methodLink RX6 202 yX6_loseFirst ∈ xTb := xTb_of 489 (by decide +kernel) rfl
theorem wI_X6_loseFirst : Cond.instanceMethod yX6_loseFirst ∈ xTb := xTb_of 491 (by decide +kernel) rfl
theorem wS_X6_loseFirst : Cond.selects RX6 yX6_loseFirst yX6_loseFirst ∈ xTb := xTb_ofS 28 (by decide +kernel) rfl
theorem wM_X6_188 : Cond.methodLink RX6 188 Lib.Math.min.name ∈ xTb := xTb_of 483 (by decide +kernel) rfl
theorem wZ_mmin : Cond.static Lib.Math.min.name ∈ xTb := xTb_of 484 (by decide +kernel) rfl
theorem wN_J9 : Cond.initialized "java/lang/Math" ∈ xTb := xTb_of 9 (by decide +kernel) rfl
theorem wC_mmin : Cond.code Lib.Math.min.name Lib.Math.min.code 2 (some .int) ∈ xTb := xTb_of 485 (by decide +kernel) rfl
theorem wM_X6_194 : Cond.methodLink RX6 194 Lib.Math.max.name ∈ xTb := xTb_of 486 (by decide +kernel) rfl
theorem wZ_mmax : Cond.static Lib.Math.max.name ∈ xTb := xTb_of 487 (by decide +kernel) rfl
theorem wC_mmax : Cond.code Lib.Math.max.name Lib.Math.max.code 2 (some .int) ∈ xTb := xTb_of 488 (by decide +kernel) rfl
theorem wM_X6_206 : Cond.methodLink RX6 206 yX0_at ∈ xTb := xTb_of 505 (by decide +kernel) rfl
theorem wI_X0_at : Cond.instanceMethod yX0_at ∈ xTb := xTb_of 506 (by decide +kernel) rfl
theorem wS_X0_at : Cond.selects RX0 yX0_at yX0_at ∈ xTb := xTb_of 507 (by decide +kernel) rfl
theorem wF_X6_381 : Cond.fieldLink RX6 381 (xf_C 1) (xf_T 1 12).2.1 (xf_T 1 12).2.2.1 ∈ xTb := xTb_of 282 (by decide +kernel) rfl
theorem wF_X6_378 : Cond.fieldLink RX6 378 (xf_C 0) (xf_T 0 0).2.1 (xf_T 0 0).2.2.1 ∈ xTb := xTb_of 33 (by decide +kernel) rfl
theorem wM_X6_231 : Cond.methodLink RX6 231 yX6_movedBy ∈ xTb := xTb_of 513 (by decide +kernel) rfl
theorem wZ_X6_movedBy : Cond.static yX6_movedBy ∈ xTb := xTb_of 514 (by decide +kernel) rfl
theorem wM_X6_235 : Cond.methodLink RX6 235 yX6_openAtHome ∈ xTb := xTb_of 520 (by decide +kernel) rfl
theorem wI_X6_openAtHome : Cond.instanceMethod yX6_openAtHome ∈ xTb := xTb_of 522 (by decide +kernel) rfl
theorem wS_X6_openAtHome : Cond.selects RX6 yX6_openAtHome yX6_openAtHome ∈ xTb := xTb_ofS 29 (by decide +kernel) rfl
theorem wM_X6_238 : Cond.methodLink RX6 238 yX6_lettersUnderWay ∈ xTb := xTb_of 524 (by decide +kernel) rfl
theorem wI_X6_lettersUnderWay : Cond.instanceMethod yX6_lettersUnderWay ∈ xTb := xTb_of 526 (by decide +kernel) rfl
theorem wS_X6_lettersUnderWay : Cond.selects RX6 yX6_lettersUnderWay yX6_lettersUnderWay ∈ xTb := xTb_ofS 30 (by decide +kernel) rfl
theorem wM_X6_241 : Cond.methodLink RX6 241 yX6_wiresCut ∈ xTb := xTb_of 528 (by decide +kernel) rfl
theorem wI_X6_wiresCut : Cond.instanceMethod yX6_wiresCut ∈ xTb := xTb_of 530 (by decide +kernel) rfl
theorem wS_X6_wiresCut : Cond.selects RX6 yX6_wiresCut yX6_wiresCut ∈ xTb := xTb_ofS 31 (by decide +kernel) rfl
theorem wM_X6_244 : Cond.methodLink RX6 244 yX6_messagesHeld ∈ xTb := xTb_of 532 (by decide +kernel) rfl
theorem wI_X6_messagesHeld : Cond.instanceMethod yX6_messagesHeld ∈ xTb := xTb_of 534 (by decide +kernel) rfl
theorem wS_X6_messagesHeld : Cond.selects RX6 yX6_messagesHeld yX6_messagesHeld ∈ xTb := xTb_ofS 32 (by decide +kernel) rfl
theorem wM_X6_247 : Cond.methodLink RX6 247 yX6_messagesWaiting ∈ xTb := xTb_of 536 (by decide +kernel) rfl
theorem wI_X6_messagesWaiting : Cond.instanceMethod yX6_messagesWaiting ∈ xTb := xTb_of 538 (by decide +kernel) rfl
theorem wS_X6_messagesWaiting : Cond.selects RX6 yX6_messagesWaiting yX6_messagesWaiting ∈ xTb := xTb_ofS 33 (by decide +kernel) rfl
theorem wO_X7_1 : Cond.methodLink RX7 1 Lib.objectInit ∈ xTb := xTb_of 549 (by decide +kernel) rfl
theorem wA_int : Cond.arrayClass .int ∈ xTb := xTb_of 728 (by decide +kernel) rfl
theorem wF_X7_7 : Cond.fieldLink RX7 7 (xf_C 7) (xf_T 7 1).2.1 (xf_T 7 1).2.2.1 ∈ xTb := xTb_of 551 (by decide +kernel) rfl
theorem wF_X7_13 : Cond.fieldLink RX7 13 (xf_C 7) (xf_T 7 2).2.1 (xf_T 7 2).2.2.1 ∈ xTb := xTb_of 552 (by decide +kernel) rfl
theorem wF_X7_16 : Cond.fieldLink RX7 16 (xf_C 7) (xf_T 7 3).2.1 (xf_T 7 3).2.2.1 ∈ xTb := xTb_of 553 (by decide +kernel) rfl
theorem wF_X7_19 : Cond.fieldLink RX7 19 (xf_C 7) (xf_T 7 4).2.1 (xf_T 7 4).2.2.1 ∈ xTb := xTb_of 554 (by decide +kernel) rfl
theorem wF_X7_22 : Cond.fieldLink RX7 22 (xf_C 7) (xf_T 7 5).2.1 (xf_T 7 5).2.2.1 ∈ xTb := xTb_of 555 (by decide +kernel) rfl
theorem wA_boolean : Cond.arrayClass .boolean ∈ xTb := xTb_of 729 (by decide +kernel) rfl
theorem wF_X7_25 : Cond.fieldLink RX7 25 (xf_C 7) (xf_T 7 6).2.1 (xf_T 7 6).2.2.1 ∈ xTb := xTb_of 556 (by decide +kernel) rfl
theorem wF_X7_29 : Cond.fieldLink RX7 29 (xf_C 7) (xf_T 7 7).2.1 (xf_T 7 7).2.2.1 ∈ xTb := xTb_of 557 (by decide +kernel) rfl
theorem wF_X7_32 : Cond.fieldLink RX7 32 (xf_C 7) (xf_T 7 8).2.1 (xf_T 7 8).2.2.1 ∈ xTb := xTb_of 558 (by decide +kernel) rfl
theorem wF_X7_35 : Cond.fieldLink RX7 35 (xf_C 7) (xf_T 7 10).2.1 (xf_T 7 10).2.2.1 ∈ xTb := xTb_of 560 (by decide +kernel) rfl
theorem wF_X7_38 : Cond.fieldLink RX7 38 (xf_C 7) (xf_T 7 11).2.1 (xf_T 7 11).2.2.1 ∈ xTb := xTb_of 561 (by decide +kernel) rfl
theorem wF_X7_41 : Cond.fieldLink RX7 41 (xf_C 7) (xf_T 7 12).2.1 (xf_T 7 12).2.2.1 ∈ xTb := xTb_of 562 (by decide +kernel) rfl
theorem wF_X7_44 : Cond.fieldLink RX7 44 (xf_C 7) (xf_T 7 13).2.1 (xf_T 7 13).2.2.1 ∈ xTb := xTb_of 563 (by decide +kernel) rfl
theorem wF_X7_47 : Cond.fieldLink RX7 47 (xf_C 7) (xf_T 7 14).2.1 (xf_T 7 14).2.2.1 ∈ xTb := xTb_of 564 (by decide +kernel) rfl
theorem wF_X7_50 : Cond.fieldLink RX7 50 (xf_C 7) (xf_T 7 15).2.1 (xf_T 7 15).2.2.1 ∈ xTb := xTb_of 565 (by decide +kernel) rfl
theorem wF_X7_53 : Cond.fieldLink RX7 53 (xf_C 7) (xf_T 7 16).2.1 (xf_T 7 16).2.2.1 ∈ xTb := xTb_of 566 (by decide +kernel) rfl
theorem wF_X7_56 : Cond.fieldLink RX7 56 (xf_C 7) (xf_T 7 17).2.1 (xf_T 7 17).2.2.1 ∈ xTb := xTb_of 567 (by decide +kernel) rfl
theorem wF_X7_59 : Cond.fieldLink RX7 59 (xf_C 7) (xf_T 7 18).2.1 (xf_T 7 18).2.2.1 ∈ xTb := xTb_of 568 (by decide +kernel) rfl
theorem wF_X7_62 : Cond.fieldLink RX7 62 (xf_C 7) (xf_T 7 19).2.1 (xf_T 7 19).2.2.1 ∈ xTb := xTb_of 569 (by decide +kernel) rfl
theorem wF_X7_65 : Cond.fieldLink RX7 65 (xf_C 7) (xf_T 7 20).2.1 (xf_T 7 20).2.2.1 ∈ xTb := xTb_of 570 (by decide +kernel) rfl
theorem wF_X7_68 : Cond.fieldLink RX7 68 (xf_C 7) (xf_T 7 21).2.1 (xf_T 7 21).2.2.1 ∈ xTb := xTb_of 571 (by decide +kernel) rfl
theorem wF_X7_71 : Cond.fieldLink RX7 71 (xf_C 7) (xf_T 7 22).2.1 (xf_T 7 22).2.2.1 ∈ xTb := xTb_of 572 (by decide +kernel) rfl
theorem wF_X7_74 : Cond.fieldLink RX7 74 (xf_C 7) (xf_T 7 23).2.1 (xf_T 7 23).2.2.1 ∈ xTb := xTb_of 573 (by decide +kernel) rfl
theorem wF_X7_77 : Cond.fieldLink RX7 77 (xf_C 7) (xf_T 7 26).2.1 (xf_T 7 26).2.2.1 ∈ xTb := xTb_of 576 (by decide +kernel) rfl
theorem wF_X7_80 : Cond.fieldLink RX7 80 (xf_C 7) (xf_T 7 27).2.1 (xf_T 7 27).2.2.1 ∈ xTb := xTb_of 577 (by decide +kernel) rfl
theorem wF_X7_83 : Cond.fieldLink RX7 83 (xf_C 7) (xf_T 7 28).2.1 (xf_T 7 28).2.2.1 ∈ xTb := xTb_of 578 (by decide +kernel) rfl
theorem wF_X7_86 : Cond.fieldLink RX7 86 (xf_C 7) (xf_T 7 29).2.1 (xf_T 7 29).2.2.1 ∈ xTb := xTb_of 579 (by decide +kernel) rfl
theorem wF_X7_89 : Cond.fieldLink RX7 89 (xf_C 7) (xf_T 7 31).2.1 (xf_T 7 31).2.2.1 ∈ xTb := xTb_of 581 (by decide +kernel) rfl
theorem wF_X7_92 : Cond.fieldLink RX7 92 (xf_C 7) (xf_T 7 32).2.1 (xf_T 7 32).2.2.1 ∈ xTb := xTb_of 582 (by decide +kernel) rfl
theorem wF_X7_95 : Cond.fieldLink RX7 95 (xf_C 7) (xf_T 7 33).2.1 (xf_T 7 33).2.2.1 ∈ xTb := xTb_of 583 (by decide +kernel) rfl
theorem wF_X7_98 : Cond.fieldLink RX7 98 (xf_C 7) (xf_T 7 34).2.1 (xf_T 7 34).2.2.1 ∈ xTb := xTb_of 584 (by decide +kernel) rfl
theorem wF_X7_101 : Cond.fieldLink RX7 101 (xf_C 7) (xf_T 7 35).2.1 (xf_T 7 35).2.2.1 ∈ xTb := xTb_of 585 (by decide +kernel) rfl
theorem wF_X7_104 : Cond.fieldLink RX7 104 (xf_C 7) (xf_T 7 36).2.1 (xf_T 7 36).2.2.1 ∈ xTb := xTb_of 586 (by decide +kernel) rfl
theorem wF_X7_107 : Cond.fieldLink RX7 107 (xf_C 7) (xf_T 7 37).2.1 (xf_T 7 37).2.2.1 ∈ xTb := xTb_of 587 (by decide +kernel) rfl
theorem wF_X7_110 : Cond.fieldLink RX7 110 (xf_C 7) (xf_T 7 38).2.1 (xf_T 7 38).2.2.1 ∈ xTb := xTb_of 588 (by decide +kernel) rfl
theorem wF_X7_113 : Cond.fieldLink RX7 113 (xf_C 7) (xf_T 7 39).2.1 (xf_T 7 39).2.2.1 ∈ xTb := xTb_of 589 (by decide +kernel) rfl
theorem wF_X7_116 : Cond.fieldLink RX7 116 (xf_C 7) (xf_T 7 40).2.1 (xf_T 7 40).2.2.1 ∈ xTb := xTb_of 590 (by decide +kernel) rfl
theorem wF_X7_119 : Cond.fieldLink RX7 119 (xf_C 7) (xf_T 7 42).2.1 (xf_T 7 42).2.2.1 ∈ xTb := xTb_of 592 (by decide +kernel) rfl
theorem wF_X7_122 : Cond.fieldLink RX7 122 (xf_C 7) (xf_T 7 43).2.1 (xf_T 7 43).2.2.1 ∈ xTb := xTb_of 593 (by decide +kernel) rfl
theorem wF_X7_125 : Cond.fieldLink RX7 125 (xf_C 7) (xf_T 7 44).2.1 (xf_T 7 44).2.2.1 ∈ xTb := xTb_of 594 (by decide +kernel) rfl
theorem wF_X7_128 : Cond.fieldLink RX7 128 (xf_C 7) (xf_T 7 0).2.1 (xf_T 7 0).2.2.1 ∈ xTb := xTb_of 550 (by decide +kernel) rfl
theorem wM_X7_132 : Cond.methodLink RX7 132 yX7_in ∈ xTb := xTb_of 734 (by decide +kernel) rfl
theorem wZ_X7_in : Cond.static yX7_in ∈ xTb := xTb_of 735 (by decide +kernel) rfl
theorem wF_X7_136 : Cond.fieldLink RX7 136 (xf_C 7) (xf_T 7 9).2.1 (xf_T 7 9).2.2.1 ∈ xTb := xTb_of 559 (by decide +kernel) rfl
theorem wM_X7_139 : Cond.methodLink RX7 139 yX7_comes ∈ xTb := xTb_of 737 (by decide +kernel) rfl
theorem wI_X7_comes : Cond.instanceMethod yX7_comes ∈ xTb := xTb_of 739 (by decide +kernel) rfl
theorem wS_X7_comes : Cond.selects RX7 yX7_comes yX7_comes ∈ xTb := xTb_ofS 34 (by decide +kernel) rfl
theorem wM_X7_143 : Cond.methodLink RX7 143 yX7_isThing ∈ xTb := xTb_of 745 (by decide +kernel) rfl
theorem wI_X7_isThing : Cond.instanceMethod yX7_isThing ∈ xTb := xTb_of 747 (by decide +kernel) rfl
theorem wS_X7_isThing : Cond.selects RX7 yX7_isThing yX7_isThing ∈ xTb := xTb_ofS 35 (by decide +kernel) rfl
theorem wF_X7_147 : Cond.fieldLink RX7 147 (xf_C 7) (xf_T 7 30).2.1 (xf_T 7 30).2.2.1 ∈ xTb := xTb_of 580 (by decide +kernel) rfl
theorem wM_X7_150 : Cond.methodLink RX7 150 yX7_posts ∈ xTb := xTb_of 805 (by decide +kernel) rfl
theorem wI_X7_posts : Cond.instanceMethod yX7_posts ∈ xTb := xTb_of 807 (by decide +kernel) rfl
theorem wS_X7_posts : Cond.selects RX7 yX7_posts yX7_posts ∈ xTb := xTb_ofS 46 (by decide +kernel) rfl
theorem wM_X7_154 : Cond.methodLink RX7 154 yX7_sendsWhen ∈ xTb := xTb_of 801 (by decide +kernel) rfl
theorem wI_X7_sendsWhen : Cond.instanceMethod yX7_sendsWhen ∈ xTb := xTb_of 803 (by decide +kernel) rfl
theorem wS_X7_sendsWhen : Cond.selects RX7 yX7_sendsWhen yX7_sendsWhen ∈ xTb := xTb_ofS 45 (by decide +kernel) rfl
theorem wF_X7_158 : Cond.fieldLink RX7 158 (xf_C 7) (xf_T 7 25).2.1 (xf_T 7 25).2.2.1 ∈ xTb := xTb_of 575 (by decide +kernel) rfl
theorem wM_X7_161 : Cond.methodLink RX7 161 yX7_postsWhen ∈ xTb := xTb_of 797 (by decide +kernel) rfl
theorem wI_X7_postsWhen : Cond.instanceMethod yX7_postsWhen ∈ xTb := xTb_of 799 (by decide +kernel) rfl
theorem wS_X7_postsWhen : Cond.selects RX7 yX7_postsWhen yX7_postsWhen ∈ xTb := xTb_ofS 44 (by decide +kernel) rfl
theorem wF_X7_164 : Cond.fieldLink RX7 164 (xf_C 7) (xf_T 7 41).2.1 (xf_T 7 41).2.2.1 ∈ xTb := xTb_of 591 (by decide +kernel) rfl
theorem wM_X7_167 : Cond.methodLink RX7 167 yX7_postsWhens ∈ xTb := xTb_of 793 (by decide +kernel) rfl
theorem wI_X7_postsWhens : Cond.instanceMethod yX7_postsWhens ∈ xTb := xTb_of 795 (by decide +kernel) rfl
theorem wS_X7_postsWhens : Cond.selects RX7 yX7_postsWhens yX7_postsWhens ∈ xTb := xTb_ofS 43 (by decide +kernel) rfl
theorem wM_X7_174 : Cond.methodLink RX7 174 yX7_isToBeDone ∈ xTb := xTb_of 777 (by decide +kernel) rfl
theorem wI_X7_isToBeDone : Cond.instanceMethod yX7_isToBeDone ∈ xTb := xTb_of 779 (by decide +kernel) rfl
theorem wS_X7_isToBeDone : Cond.selects RX7 yX7_isToBeDone yX7_isToBeDone ∈ xTb := xTb_ofS 39 (by decide +kernel) rfl
theorem wM_X7_171 : Cond.methodLink RX7 171 yX7_arrives ∈ xTb := xTb_of 789 (by decide +kernel) rfl
theorem wI_X7_arrives : Cond.instanceMethod yX7_arrives ∈ xTb := xTb_of 791 (by decide +kernel) rfl
theorem wS_X7_arrives : Cond.selects RX7 yX7_arrives yX7_arrives ∈ xTb := xTb_ofS 42 (by decide +kernel) rfl
theorem wM_X7_177 : Cond.methodLink RX7 177 yX7_comesBack ∈ xTb := xTb_of 785 (by decide +kernel) rfl
theorem wI_X7_comesBack : Cond.instanceMethod yX7_comesBack ∈ xTb := xTb_of 787 (by decide +kernel) rfl
theorem wS_X7_comesBack : Cond.selects RX7 yX7_comesBack yX7_comesBack ∈ xTb := xTb_ofS 41 (by decide +kernel) rfl
theorem wM_X7_181 : Cond.methodLink RX7 181 yX7_sendsAnswer ∈ xTb := xTb_of 781 (by decide +kernel) rfl
theorem wI_X7_sendsAnswer : Cond.instanceMethod yX7_sendsAnswer ∈ xTb := xTb_of 783 (by decide +kernel) rfl
theorem wS_X7_sendsAnswer : Cond.selects RX7 yX7_sendsAnswer yX7_sendsAnswer ∈ xTb := xTb_ofS 40 (by decide +kernel) rfl
theorem wM_X7_185 : Cond.methodLink RX7 185 yX7_settles ∈ xTb := xTb_of 773 (by decide +kernel) rfl
theorem wI_X7_settles : Cond.instanceMethod yX7_settles ∈ xTb := xTb_of 775 (by decide +kernel) rfl
theorem wS_X7_settles : Cond.selects RX7 yX7_settles yX7_settles ∈ xTb := xTb_ofS 38 (by decide +kernel) rfl
theorem wM_X7_188 : Cond.methodLink RX7 188 yX7_losesMessage ∈ xTb := xTb_of 829 (by decide +kernel) rfl
theorem wI_X7_losesMessage : Cond.instanceMethod yX7_losesMessage ∈ xTb := xTb_of 831 (by decide +kernel) rfl
theorem wS_X7_losesMessage : Cond.selects RX7 yX7_losesMessage yX7_losesMessage ∈ xTb := xTb_ofS 52 (by decide +kernel) rfl
theorem wM_X7_192 : Cond.methodLink RX7 192 yX7_sends ∈ xTb := xTb_of 825 (by decide +kernel) rfl
theorem wI_X7_sends : Cond.instanceMethod yX7_sends ∈ xTb := xTb_of 827 (by decide +kernel) rfl
theorem wS_X7_sends : Cond.selects RX7 yX7_sends yX7_sends ∈ xTb := xTb_ofS 51 (by decide +kernel) rfl
theorem wM_X7_196 : Cond.methodLink RX7 196 yX7_sendsToThing ∈ xTb := xTb_of 821 (by decide +kernel) rfl
theorem wI_X7_sendsToThing : Cond.instanceMethod yX7_sendsToThing ∈ xTb := xTb_of 823 (by decide +kernel) rfl
theorem wS_X7_sendsToThing : Cond.selects RX7 yX7_sendsToThing yX7_sendsToThing ∈ xTb := xTb_ofS 50 (by decide +kernel) rfl
theorem wM_X7_203 : Cond.methodLink RX7 203 yX7_goesOn ∈ xTb := xTb_of 817 (by decide +kernel) rfl
theorem wI_X7_goesOn : Cond.instanceMethod yX7_goesOn ∈ xTb := xTb_of 819 (by decide +kernel) rfl
theorem wS_X7_goesOn : Cond.selects RX7 yX7_goesOn yX7_goesOn ∈ xTb := xTb_ofS 49 (by decide +kernel) rfl
theorem wM_X7_199 : Cond.methodLink RX7 199 yX7_firstKept ∈ xTb := xTb_of 769 (by decide +kernel) rfl
theorem wI_X7_firstKept : Cond.instanceMethod yX7_firstKept ∈ xTb := xTb_of 771 (by decide +kernel) rfl
theorem wS_X7_firstKept : Cond.selects RX7 yX7_firstKept yX7_firstKept ∈ xTb := xTb_ofS 37 (by decide +kernel) rfl
theorem wM_X7_206 : Cond.methodLink RX7 206 yX7_doesOne ∈ xTb := xTb_of 813 (by decide +kernel) rfl
theorem wI_X7_doesOne : Cond.instanceMethod yX7_doesOne ∈ xTb := xTb_of 815 (by decide +kernel) rfl
theorem wS_X7_doesOne : Cond.selects RX7 yX7_doesOne yX7_doesOne ∈ xTb := xTb_ofS 48 (by decide +kernel) rfl
theorem wF_X7_209 : Cond.fieldLink RX7 209 (xf_C 7) (xf_T 7 47).2.1 (xf_T 7 47).2.2.1 ∈ xTb := xTb_of 597 (by decide +kernel) rfl
theorem wM_X7_212 : Cond.methodLink RX7 212 yX7_answers ∈ xTb := xTb_of 900 (by decide +kernel) rfl
theorem wI_X7_answers : Cond.instanceMethod yX7_answers ∈ xTb := xTb_of 902 (by decide +kernel) rfl
theorem wS_X7_answers : Cond.selects RX7 yX7_answers yX7_answers ∈ xTb := xTb_ofS 64 (by decide +kernel) rfl
theorem wM_X7_225 : Cond.methodLink RX7 225 yX7_breaks ∈ xTb := xTb_of 904 (by decide +kernel) rfl
theorem wI_X7_breaks : Cond.instanceMethod yX7_breaks ∈ xTb := xTb_of 906 (by decide +kernel) rfl
theorem wS_X7_breaks : Cond.selects RX7 yX7_breaks yX7_breaks ∈ xTb := xTb_ofS 65 (by decide +kernel) rfl
theorem wF_X7_215 : Cond.fieldLink RX7 215 (xf_C 7) (xf_T 7 46).2.1 (xf_T 7 46).2.2.1 ∈ xTb := xTb_of 596 (by decide +kernel) rfl
theorem wF_X7_219 : Cond.fieldLink RX7 219 (xf_C 7) (xf_T 7 48).2.1 (xf_T 7 48).2.2.1 ∈ xTb := xTb_of 598 (by decide +kernel) rfl
theorem wF_X7_222 : Cond.fieldLink RX7 222 (xf_C 7) (xf_T 7 49).2.1 (xf_T 7 49).2.2.1 ∈ xTb := xTb_of 599 (by decide +kernel) rfl
theorem wM_X7_234 : Cond.methodLink RX7 234 yX7_cell ∈ xTb := xTb_of 896 (by decide +kernel) rfl
theorem wI_X7_cell : Cond.instanceMethod yX7_cell ∈ xTb := xTb_of 898 (by decide +kernel) rfl
theorem wS_X7_cell : Cond.selects RX7 yX7_cell yX7_cell ∈ xTb := xTb_ofS 63 (by decide +kernel) rfl
theorem wM_X7_230 : Cond.methodLink RX7 230 yX7_moves ∈ xTb := xTb_of 913 (by decide +kernel) rfl
theorem wI_X7_moves : Cond.instanceMethod yX7_moves ∈ xTb := xTb_of 915 (by decide +kernel) rfl
theorem wS_X7_moves : Cond.selects RX7 yX7_moves yX7_moves ∈ xTb := xTb_ofS 67 (by decide +kernel) rfl
theorem wL_X7_228 : Cond.constantLong RX7 228 10 ∈ xTb := xTb_of 912 (by decide +kernel) rfl
theorem wL_X7_237 : Cond.constantLong RX7 237 100 ∈ xTb := xTb_of 921 (by decide +kernel) rfl
theorem wL_X7_239 : Cond.constantLong RX7 239 1000 ∈ xTb := xTb_of 926 (by decide +kernel) rfl
theorem wL_X7_241 : Cond.constantLong RX7 241 10000 ∈ xTb := xTb_of 931 (by decide +kernel) rfl
theorem wM_X7_243 : Cond.methodLink RX7 243 yX7_guardHears ∈ xTb := xTb_of 922 (by decide +kernel) rfl
theorem wI_X7_guardHears : Cond.instanceMethod yX7_guardHears ∈ xTb := xTb_of 924 (by decide +kernel) rfl
theorem wS_X7_guardHears : Cond.selects RX7 yX7_guardHears yX7_guardHears ∈ xTb := xTb_ofS 69 (by decide +kernel) rfl
theorem wF_X7_246 : Cond.fieldLink RX7 246 (xf_C 7) (xf_T 7 24).2.1 (xf_T 7 24).2.2.1 ∈ xTb := xTb_of 574 (by decide +kernel) rfl
theorem wM_X7_254 : Cond.methodLink RX7 254 yX7_answersAll ∈ xTb := xTb_of 765 (by decide +kernel) rfl
theorem wI_X7_answersAll : Cond.instanceMethod yX7_answersAll ∈ xTb := xTb_of 767 (by decide +kernel) rfl
theorem wS_X7_answersAll : Cond.selects RX7 yX7_answersAll yX7_answersAll ∈ xTb := xTb_ofS 36 (by decide +kernel) rfl
theorem wL_X7_249 : Cond.constantLong RX7 249 100000 ∈ xTb := xTb_of 936 (by decide +kernel) rfl
theorem wM_X7_251 : Cond.methodLink RX7 251 yX7_holds ∈ xTb := xTb_of 937 (by decide +kernel) rfl
theorem wI_X7_holds : Cond.instanceMethod yX7_holds ∈ xTb := xTb_of 939 (by decide +kernel) rfl
theorem wS_X7_holds : Cond.selects RX7 yX7_holds yX7_holds ∈ xTb := xTb_ofS 72 (by decide +kernel) rfl
theorem wL_X7_257 : Cond.constantLong RX7 257 1000000 ∈ xTb := xTb_of 945 (by decide +kernel) rfl
theorem wM_X7_259 : Cond.methodLink RX7 259 yX7_joiner ∈ xTb := xTb_of 932 (by decide +kernel) rfl
theorem wI_X7_joiner : Cond.instanceMethod yX7_joiner ∈ xTb := xTb_of 934 (by decide +kernel) rfl
theorem wS_X7_joiner : Cond.selects RX7 yX7_joiner yX7_joiner ∈ xTb := xTb_ofS 71 (by decide +kernel) rfl
theorem wF_X7_262 : Cond.fieldLink RX7 262 (xf_C 7) (xf_T 7 45).2.1 (xf_T 7 45).2.2.1 ∈ xTb := xTb_of 595 (by decide +kernel) rfl
theorem wM_X7_265 : Cond.methodLink RX7 265 yX7_purse ∈ xTb := xTb_of 908 (by decide +kernel) rfl
theorem wI_X7_purse : Cond.instanceMethod yX7_purse ∈ xTb := xTb_of 910 (by decide +kernel) rfl
theorem wS_X7_purse : Cond.selects RX7 yX7_purse yX7_purse ∈ xTb := xTb_ofS 66 (by decide +kernel) rfl
theorem wM_X7_268 : Cond.methodLink RX7 268 yX7_maker ∈ xTb := xTb_of 917 (by decide +kernel) rfl
theorem wI_X7_maker : Cond.instanceMethod yX7_maker ∈ xTb := xTb_of 919 (by decide +kernel) rfl
theorem wS_X7_maker : Cond.selects RX7 yX7_maker yX7_maker ∈ xTb := xTb_ofS 68 (by decide +kernel) rfl
theorem wM_X7_271 : Cond.methodLink RX7 271 yX7_switchHears ∈ xTb := xTb_of 927 (by decide +kernel) rfl
theorem wI_X7_switchHears : Cond.instanceMethod yX7_switchHears ∈ xTb := xTb_of 929 (by decide +kernel) rfl
theorem wS_X7_switchHears : Cond.selects RX7 yX7_switchHears yX7_switchHears ∈ xTb := xTb_ofS 70 (by decide +kernel) rfl
theorem wM_X7_274 : Cond.methodLink RX7 274 yX7_sleeper ∈ xTb := xTb_of 941 (by decide +kernel) rfl
theorem wI_X7_sleeper : Cond.instanceMethod yX7_sleeper ∈ xTb := xTb_of 943 (by decide +kernel) rfl
theorem wS_X7_sleeper : Cond.selects RX7 yX7_sleeper yX7_sleeper ∈ xTb := xTb_ofS 73 (by decide +kernel) rfl
theorem wM_X7_277 : Cond.methodLink RX7 277 yX7_doesAll ∈ xTb := xTb_of 809 (by decide +kernel) rfl
theorem wI_X7_doesAll : Cond.instanceMethod yX7_doesAll ∈ xTb := xTb_of 811 (by decide +kernel) rfl
theorem wS_X7_doesAll : Cond.selects RX7 yX7_doesAll yX7_doesAll ∈ xTb := xTb_ofS 47 (by decide +kernel) rfl
theorem wM_X7_283 : Cond.methodLink RX7 283 yX7_isOf ∈ xTb := xTb_of 841 (by decide +kernel) rfl
theorem wI_X7_isOf : Cond.instanceMethod yX7_isOf ∈ xTb := xTb_of 843 (by decide +kernel) rfl
theorem wS_X7_isOf : Cond.selects RX7 yX7_isOf yX7_isOf ∈ xTb := xTb_ofS 54 (by decide +kernel) rfl
theorem wM_X7_280 : Cond.methodLink RX7 280 yX7_isPromise ∈ xTb := xTb_of 837 (by decide +kernel) rfl
theorem wI_X7_isPromise : Cond.instanceMethod yX7_isPromise ∈ xTb := xTb_of 839 (by decide +kernel) rfl
theorem wS_X7_isPromise : Cond.selects RX7 yX7_isPromise yX7_isPromise ∈ xTb := xTb_ofS 53 (by decide +kernel) rfl
theorem wM_X7_287 : Cond.methodLink RX7 287 yX7_stateIn ∈ xTb := xTb_of 849 (by decide +kernel) rfl
theorem wI_X7_stateIn : Cond.instanceMethod yX7_stateIn ∈ xTb := xTb_of 851 (by decide +kernel) rfl
theorem wS_X7_stateIn : Cond.selects RX7 yX7_stateIn yX7_stateIn ∈ xTb := xTb_ofS 55 (by decide +kernel) rfl
theorem wM_X7_290 : Cond.methodLink RX7 290 yX7_valueIn ∈ xTb := xTb_of 853 (by decide +kernel) rfl
theorem wI_X7_valueIn : Cond.instanceMethod yX7_valueIn ∈ xTb := xTb_of 855 (by decide +kernel) rfl
theorem wS_X7_valueIn : Cond.selects RX7 yX7_valueIn yX7_valueIn ∈ xTb := xTb_ofS 56 (by decide +kernel) rfl
theorem wM_X7_293 : Cond.methodLink RX7 293 yX7_waitsFor ∈ xTb := xTb_of 865 (by decide +kernel) rfl
theorem wI_X7_waitsFor : Cond.instanceMethod yX7_waitsFor ∈ xTb := xTb_of 867 (by decide +kernel) rfl
theorem wS_X7_waitsFor : Cond.selects RX7 yX7_waitsFor yX7_waitsFor ∈ xTb := xTb_ofS 57 (by decide +kernel) rfl
theorem wF_X7_297 : Cond.fieldLink RX7 297 (xf_C 7) (xf_T 7 50).2.1 (xf_T 7 50).2.2.1 ∈ xTb := xTb_of 600 (by decide +kernel) rfl
theorem wF_X7_300 : Cond.fieldLink RX7 300 (xf_C 7) (xf_T 7 51).2.1 (xf_T 7 51).2.2.1 ∈ xTb := xTb_of 601 (by decide +kernel) rfl
theorem wF_X7_303 : Cond.fieldLink RX7 303 (xf_C 7) (xf_T 7 52).2.1 (xf_T 7 52).2.2.1 ∈ xTb := xTb_of 602 (by decide +kernel) rfl
theorem wF_X7_306 : Cond.fieldLink RX7 306 (xf_C 7) (xf_T 7 53).2.1 (xf_T 7 53).2.2.1 ∈ xTb := xTb_of 603 (by decide +kernel) rfl
theorem wF_X7_309 : Cond.fieldLink RX7 309 (xf_C 7) (xf_T 7 54).2.1 (xf_T 7 54).2.2.1 ∈ xTb := xTb_of 604 (by decide +kernel) rfl
theorem wF_X7_312 : Cond.fieldLink RX7 312 (xf_C 7) (xf_T 7 55).2.1 (xf_T 7 55).2.2.1 ∈ xTb := xTb_of 605 (by decide +kernel) rfl
theorem wF_X7_315 : Cond.fieldLink RX7 315 (xf_C 7) (xf_T 7 56).2.1 (xf_T 7 56).2.2.1 ∈ xTb := xTb_of 606 (by decide +kernel) rfl
theorem wF_X7_318 : Cond.fieldLink RX7 318 (xf_C 7) (xf_T 7 57).2.1 (xf_T 7 57).2.2.1 ∈ xTb := xTb_of 607 (by decide +kernel) rfl
theorem wF_X7_321 : Cond.fieldLink RX7 321 (xf_C 7) (xf_T 7 58).2.1 (xf_T 7 58).2.2.1 ∈ xTb := xTb_of 608 (by decide +kernel) rfl
theorem wM_X7_325 : Cond.methodLink RX7 325 yX7_hears ∈ xTb := xTb_of 892 (by decide +kernel) rfl
theorem wI_X7_hears : Cond.instanceMethod yX7_hears ∈ xTb := xTb_of 894 (by decide +kernel) rfl
theorem wS_X7_hears : Cond.selects RX7 yX7_hears yX7_hears ∈ xTb := xTb_ofS 62 (by decide +kernel) rfl
theorem wM_X7_328 : Cond.methodLink RX7 328 yX7_takesOut ∈ xTb := xTb_of 884 (by decide +kernel) rfl
theorem wI_X7_takesOut : Cond.instanceMethod yX7_takesOut ∈ xTb := xTb_of 886 (by decide +kernel) rfl
theorem wS_X7_takesOut : Cond.selects RX7 yX7_takesOut yX7_takesOut ∈ xTb := xTb_ofS 60 (by decide +kernel) rfl
theorem wM_X7_334 : Cond.methodLink RX7 334 yX7_comesToPromise ∈ xTb := xTb_of 946 (by decide +kernel) rfl
theorem wI_X7_comesToPromise : Cond.instanceMethod yX7_comesToPromise ∈ xTb := xTb_of 948 (by decide +kernel) rfl
theorem wS_X7_comesToPromise : Cond.selects RX7 yX7_comesToPromise yX7_comesToPromise ∈ xTb := xTb_ofS 74 (by decide +kernel) rfl
theorem wM_X7_331 : Cond.methodLink RX7 331 yX7_comesToThing ∈ xTb := xTb_of 888 (by decide +kernel) rfl
theorem wI_X7_comesToThing : Cond.instanceMethod yX7_comesToThing ∈ xTb := xTb_of 890 (by decide +kernel) rfl
theorem wS_X7_comesToThing : Cond.selects RX7 yX7_comesToThing yX7_comesToThing ∈ xTb := xTb_ofS 61 (by decide +kernel) rfl
theorem wM_X7_337 : Cond.methodLink RX7 337 yX7_areHouses ∈ xTb := xTb_of 873 (by decide +kernel) rfl
theorem wZ_X7_areHouses : Cond.static yX7_areHouses ∈ xTb := xTb_of 874 (by decide +kernel) rfl
theorem wM_X7_340 : Cond.methodLink RX7 340 yX7_firstLetter ∈ xTb := xTb_of 876 (by decide +kernel) rfl
theorem wI_X7_firstLetter : Cond.instanceMethod yX7_firstLetter ∈ xTb := xTb_of 878 (by decide +kernel) rfl
theorem wS_X7_firstLetter : Cond.selects RX7 yX7_firstLetter yX7_firstLetter ∈ xTb := xTb_ofS 58 (by decide +kernel) rfl
theorem wM_X7_343 : Cond.methodLink RX7 343 yX7_delivers ∈ xTb := xTb_of 880 (by decide +kernel) rfl
theorem wI_X7_delivers : Cond.instanceMethod yX7_delivers ∈ xTb := xTb_of 882 (by decide +kernel) rfl
theorem wS_X7_delivers : Cond.selects RX7 yX7_delivers yX7_delivers ∈ xTb := xTb_ofS 59 (by decide +kernel) rfl
theorem wM_X7_346 : Cond.methodLink RX7 346 yX7_losesAll ∈ xTb := xTb_of 958 (by decide +kernel) rfl
theorem wI_X7_losesAll : Cond.instanceMethod yX7_losesAll ∈ xTb := xTb_of 960 (by decide +kernel) rfl
theorem wS_X7_losesAll : Cond.selects RX7 yX7_losesAll yX7_losesAll ∈ xTb := xTb_ofS 75 (by decide +kernel) rfl
theorem wM_X7_349 : Cond.methodLink RX7 349 yX7_letterOf ∈ xTb := xTb_of 974 (by decide +kernel) rfl
theorem wI_X7_letterOf : Cond.instanceMethod yX7_letterOf ∈ xTb := xTb_of 976 (by decide +kernel) rfl
theorem wS_X7_letterOf : Cond.selects RX7 yX7_letterOf yX7_letterOf ∈ xTb := xTb_ofS 76 (by decide +kernel) rfl
theorem wM_X7_353 : Cond.methodLink RX7 353 yX7_countWhere ∈ xTb := xTb_of 986 (by decide +kernel) rfl
theorem wI_X7_countWhere : Cond.instanceMethod yX7_countWhere ∈ xTb := xTb_of 988 (by decide +kernel) rfl
theorem wS_X7_countWhere : Cond.selects RX7 yX7_countWhere yX7_countWhere ∈ xTb := xTb_ofS 77 (by decide +kernel) rfl
theorem wC_X0_init : Cond.code yX0_init cX0_init 1 none ∈ xTb := xTb_of 30 (by decide +kernel) rfl
theorem wC_X0_add : Cond.code yX0_add cX0_add 2 none ∈ xTb := xTb_of 198 (by decide +kernel) rfl
theorem wC_X0_take : Cond.code yX0_take cX0_take 2 (some (.object "PromiseWire$Message")) ∈ xTb := xTb_of 186 (by decide +kernel) rfl
theorem wC_X0_at : Cond.code yX0_at cX0_at 4 (some (.object "PromiseWire$Message")) ∈ xTb := xTb_of 508 (by decide +kernel) rfl
theorem wC_X0_sumOfNs : Cond.code yX0_sumOfNs cX0_sumOfNs 4 (some .int) ∈ xTb := xTb_of 470 (by decide +kernel) rfl
theorem wC_X1_init : Cond.code yX1_init cX1_init 4 none ∈ xTb := xTb_of 256 (by decide +kernel) rfl
theorem wC_X1_answer : Cond.code yX1_answer cX1_answer 3 (some .int) ∈ xTb := xTb_of 190 (by decide +kernel) rfl
theorem wC_X1_breakByCut : Cond.code yX1_breakByCut cX1_breakByCut 1 none ∈ xTb := xTb_of 210 (by decide +kernel) rfl
theorem wC_X1_destination : Cond.code yX1_destination cX1_destination 1 (some .int) ∈ xTb := xTb_of 231 (by decide +kernel) rfl
theorem wC_X1_whatLetter : Cond.code yX1_whatLetter cX1_whatLetter 1 (some .int) ∈ xTb := xTb_of 412 (by decide +kernel) rfl
theorem wC_X2_init : Cond.code yX2_init cX2_init 5 none ∈ xTb := xTb_of 329 (by decide +kernel) rfl
theorem wC_X2_isKnownIn : Cond.code yX2_isKnownIn cX2_isKnownIn 2 (some .boolean) ∈ xTb := xTb_of 325 (by decide +kernel) rfl
theorem wC_X2_howIn : Cond.code yX2_howIn cX2_howIn 2 (some .int) ∈ xTb := xTb_of 251 (by decide +kernel) rfl
theorem wC_X2_valueIn : Cond.code yX2_valueIn cX2_valueIn 2 (some .int) ∈ xTb := xTb_of 247 (by decide +kernel) rfl
theorem wC_X3_init : Cond.code yX3_init cX3_init 7 none ∈ xTb := xTb_of 115 (by decide +kernel) rfl
theorem wC_X4_init : Cond.code yX4_init cX4_init 4 none ∈ xTb := xTb_of 378 (by decide +kernel) rfl
theorem wC_X5_init : Cond.code yX5_init cX5_init 3 none ∈ xTb := xTb_of 47 (by decide +kernel) rfl
theorem wC_X6_init : Cond.code yX6_init cX6_init 2 none ∈ xTb := xTb_of 14 (by decide +kernel) rfl
theorem wN_X6 : Cond.initialized RX6 ∈ xTb := xTb_of 1 (by decide +kernel) rfl
theorem wC_X6_isHouse : Cond.code yX6_isHouse cX6_isHouse 1 (some .boolean) ∈ xTb := xTb_of 104 (by decide +kernel) rfl
theorem wC_X6_mayBegin : Cond.code yX6_mayBegin cX6_mayBegin 2 (some .boolean) ∈ xTb := xTb_of 107 (by decide +kernel) rfl
theorem wC_X6_addThing : Cond.code yX6_addThing cX6_addThing 7 (some .int) ∈ xTb := xTb_of 111 (by decide +kernel) rfl
theorem wC_X6_thing : Cond.code yX6_thing cX6_thing 4 (some .int) ∈ xTb := xTb_of 101 (by decide +kernel) rfl
theorem wC_X6_thingAt : Cond.code yX6_thingAt cX6_thingAt 2 (some (.object "PromiseWire$Thing")) ∈ xTb := xTb_of 163 (by decide +kernel) rfl
theorem wC_X6_guard : Cond.code yX6_guard cX6_guard 6 (some .int) ∈ xTb := xTb_of 159 (by decide +kernel) rfl
theorem wC_X6_oneIf : Cond.code yX6_oneIf cX6_oneIf 1 (some .int) ∈ xTb := xTb_of 170 (by decide +kernel) rfl
theorem wC_X6_shut : Cond.code yX6_shut cX6_shut 5 (some .int) ∈ xTb := xTb_of 167 (by decide +kernel) rfl
theorem wC_X6_back : Cond.code yX6_back cX6_back 4 (some .int) ∈ xTb := xTb_of 174 (by decide +kernel) rfl
theorem wC_X6_wireAt : Cond.code yX6_wireAt cX6_wireAt 3 (some (.object "PromiseWire$Wire")) ∈ xTb := xTb_of 206 (by decide +kernel) rfl
theorem wC_X6_post : Cond.code yX6_post cX6_post 5 (some .boolean) ∈ xTb := xTb_of 202 (by decide +kernel) rfl
theorem wC_X6_settle : Cond.code yX6_settle cX6_settle 4 none ∈ xTb := xTb_of 194 (by decide +kernel) rfl
theorem wC_X6_answerHeld : Cond.code yX6_answerHeld cX6_answerHeld 6 (some .int) ∈ xTb := xTb_of 182 (by decide +kernel) rfl
theorem wC_X6_send : Cond.code yX6_send cX6_send 3 none ∈ xTb := xTb_of 227 (by decide +kernel) rfl
theorem wC_X6_sendOn : Cond.code yX6_sendOn cX6_sendOn 4 none ∈ xTb := xTb_of 223 (by decide +kernel) rfl
theorem wC_X6_postWhen : Cond.code yX6_postWhen cX6_postWhen 5 none ∈ xTb := xTb_of 243 (by decide +kernel) rfl
theorem wC_X6_postWhens : Cond.code yX6_postWhens cX6_postWhens 5 none ∈ xTb := xTb_of 239 (by decide +kernel) rfl
theorem wC_X6_tellAsker : Cond.code yX6_tellAsker cX6_tellAsker 3 none ∈ xTb := xTb_of 235 (by decide +kernel) rfl
theorem wC_X6_fulfil : Cond.code yX6_fulfil cX6_fulfil 6 none ∈ xTb := xTb_of 219 (by decide +kernel) rfl
theorem wC_X6_doAll : Cond.code yX6_doAll cX6_doAll 3 none ∈ xTb := xTb_of 215 (by decide +kernel) rfl
theorem wC_X6_wake : Cond.code yX6_wake cX6_wake 5 (some .int) ∈ xTb := xTb_of 178 (by decide +kernel) rfl
theorem wC_X6_about : Cond.code yX6_about cX6_about 4 (some .int) ∈ xTb := xTb_of 313 (by decide +kernel) rfl
theorem wC_X6_promiseAt : Cond.code yX6_promiseAt cX6_promiseAt 2 (some (.object "PromiseWire$Promise")) ∈ xTb := xTb_of 321 (by decide +kernel) rfl
theorem wC_X6_ask : Cond.code yX6_ask cX6_ask 13 (some .int) ∈ xTb := xTb_of 317 (by decide +kernel) rfl
theorem wC_X6_when : Cond.code yX6_when cX6_when 7 (some .int) ∈ xTb := xTb_of 374 (by decide +kernel) rfl
theorem wC_X6_state : Cond.code yX6_state cX6_state 5 (some .int) ∈ xTb := xTb_of 396 (by decide +kernel) rfl
theorem wC_X6_promise : Cond.code yX6_promise cX6_promise 4 (some .int) ∈ xTb := xTb_of 400 (by decide +kernel) rfl
theorem wC_X6_receiveAnswer : Cond.code yX6_receiveAnswer cX6_receiveAnswer 4 none ∈ xTb := xTb_of 416 (by decide +kernel) rfl
theorem wC_X6_reachPromise : Cond.code yX6_reachPromise cX6_reachPromise 3 none ∈ xTb := xTb_of 420 (by decide +kernel) rfl
theorem wC_X6_hearAsCell : Cond.code yX6_hearAsCell cX6_hearAsCell 4 (some .int) ∈ xTb := xTb_of 437 (by decide +kernel) rfl
theorem wC_X6_hearAsPurse : Cond.code yX6_hearAsPurse cX6_hearAsPurse 5 (some .int) ∈ xTb := xTb_of 432 (by decide +kernel) rfl
theorem wC_X6_hearAsMaker : Cond.code yX6_hearAsMaker cX6_hearAsMaker 4 (some .int) ∈ xTb := xTb_of 441 (by decide +kernel) rfl
theorem wC_X6_hearAsGuard : Cond.code yX6_hearAsGuard cX6_hearAsGuard 3 (some .int) ∈ xTb := xTb_of 446 (by decide +kernel) rfl
theorem wC_X6_hearAsSwitch : Cond.code yX6_hearAsSwitch cX6_hearAsSwitch 3 (some .int) ∈ xTb := xTb_of 451 (by decide +kernel) rfl
theorem wC_X6_hearAsJoiner : Cond.code yX6_hearAsJoiner cX6_hearAsJoiner 3 (some .int) ∈ xTb := xTb_of 456 (by decide +kernel) rfl
theorem wC_X6_hearAsSleeper : Cond.code yX6_hearAsSleeper cX6_hearAsSleeper 3 (some .int) ∈ xTb := xTb_of 461 (by decide +kernel) rfl
theorem wC_X6_hear : Cond.code yX6_hear cX6_hear 3 (some .int) ∈ xTb := xTb_of 428 (by decide +kernel) rfl
theorem wC_X6_hold : Cond.code yX6_hold cX6_hold 3 none ∈ xTb := xTb_of 466 (by decide +kernel) rfl
theorem wC_X6_takeTurn : Cond.code yX6_takeTurn cX6_takeTurn 3 none ∈ xTb := xTb_of 424 (by decide +kernel) rfl
theorem wC_X6_deliverFirst : Cond.code yX6_deliverFirst cX6_deliverFirst 4 (some .int) ∈ xTb := xTb_of 408 (by decide +kernel) rfl
theorem wC_X6_deliver : Cond.code yX6_deliver cX6_deliver 5 (some .int) ∈ xTb := xTb_of 404 (by decide +kernel) rfl
theorem wC_X6_firstWireWithLetters : Cond.code yX6_firstWireWithLetters cX6_firstWireWithLetters 3 (some (.object "PromiseWire$Wire")) ∈ xTb := xTb_of 478 (by decide +kernel) rfl
theorem wC_X6_flow : Cond.code yX6_flow cX6_flow 4 (some .int) ∈ xTb := xTb_of 474 (by decide +kernel) rfl
theorem wC_X6_loseFirst : Cond.code yX6_loseFirst cX6_loseFirst 3 none ∈ xTb := xTb_of 492 (by decide +kernel) rfl
theorem wC_X6_cut : Cond.code yX6_cut cX6_cut 7 (some .int) ∈ xTb := xTb_of 482 (by decide +kernel) rfl
theorem wC_X6_again : Cond.code yX6_again cX6_again 5 (some .int) ∈ xTb := xTb_of 496 (by decide +kernel) rfl
theorem wC_X6_wire : Cond.code yX6_wire cX6_wire 4 (some .int) ∈ xTb := xTb_of 500 (by decide +kernel) rfl
theorem wC_X6_letter : Cond.code yX6_letter cX6_letter 7 (some .int) ∈ xTb := xTb_of 504 (by decide +kernel) rfl
theorem wC_X6_movedBy : Cond.code yX6_movedBy cX6_movedBy 5 (some .long) ∈ xTb := xTb_of 515 (by decide +kernel) rfl
theorem wC_X6_purses : Cond.code yX6_purses cX6_purses 5 (some .long) ∈ xTb := xTb_of 512 (by decide +kernel) rfl
theorem wC_X6_openAtHome : Cond.code yX6_openAtHome cX6_openAtHome 4 (some .int) ∈ xTb := xTb_of 523 (by decide +kernel) rfl
theorem wC_X6_lettersUnderWay : Cond.code yX6_lettersUnderWay cX6_lettersUnderWay 3 (some .int) ∈ xTb := xTb_of 527 (by decide +kernel) rfl
theorem wC_X6_wiresCut : Cond.code yX6_wiresCut cX6_wiresCut 4 (some .int) ∈ xTb := xTb_of 531 (by decide +kernel) rfl
theorem wC_X6_messagesHeld : Cond.code yX6_messagesHeld cX6_messagesHeld 4 (some .int) ∈ xTb := xTb_of 535 (by decide +kernel) rfl
theorem wC_X6_messagesWaiting : Cond.code yX6_messagesWaiting cX6_messagesWaiting 4 (some .int) ∈ xTb := xTb_of 539 (by decide +kernel) rfl
theorem wC_X6_count : Cond.code yX6_count cX6_count 2 (some .int) ∈ xTb := xTb_of 519 (by decide +kernel) rfl
theorem wC_X6_trace : Cond.code yX6_trace cX6_trace 1 (some .long) ∈ xTb := xTb_of 543 (by decide +kernel) rfl
theorem wC_X7_init : Cond.code yX7_init cX7_init 1 none ∈ xTb := xTb_of 548 (by decide +kernel) rfl
theorem wN_X7 : Cond.initialized RX7 ∈ xTb := xTb_of 4 (by decide +kernel) rfl
theorem wC_X7_in : Cond.code yX7_in cX7_in 3 (some .boolean) ∈ xTb := xTb_of 736 (by decide +kernel) rfl
theorem wC_X7_isThing : Cond.code yX7_isThing cX7_isThing 2 (some .boolean) ∈ xTb := xTb_of 748 (by decide +kernel) rfl
theorem wC_X7_isPromise : Cond.code yX7_isPromise cX7_isPromise 2 (some .boolean) ∈ xTb := xTb_of 840 (by decide +kernel) rfl
theorem wC_X7_comes : Cond.code yX7_comes cX7_comes 6 (some .int) ∈ xTb := xTb_of 740 (by decide +kernel) rfl
theorem wC_X7_thing : Cond.code yX7_thing cX7_thing 5 (some .int) ∈ xTb := xTb_of 733 (by decide +kernel) rfl
theorem wC_X7_guard : Cond.code yX7_guard cX7_guard 5 (some .int) ∈ xTb := xTb_of 744 (by decide +kernel) rfl
theorem wC_X7_shut : Cond.code yX7_shut cX7_shut 4 (some .int) ∈ xTb := xTb_of 752 (by decide +kernel) rfl
theorem wC_X7_back : Cond.code yX7_back cX7_back 3 (some .int) ∈ xTb := xTb_of 756 (by decide +kernel) rfl
theorem wC_X7_about : Cond.code yX7_about cX7_about 3 (some .int) ∈ xTb := xTb_of 760 (by decide +kernel) rfl
theorem wC_X7_posts : Cond.code yX7_posts cX7_posts 10 none ∈ xTb := xTb_of 808 (by decide +kernel) rfl
theorem wC_X7_sendsWhen : Cond.code yX7_sendsWhen cX7_sendsWhen 4 none ∈ xTb := xTb_of 804 (by decide +kernel) rfl
theorem wC_X7_postsWhen : Cond.code yX7_postsWhen cX7_postsWhen 4 none ∈ xTb := xTb_of 800 (by decide +kernel) rfl
theorem wC_X7_postsWhens : Cond.code yX7_postsWhens cX7_postsWhens 6 none ∈ xTb := xTb_of 796 (by decide +kernel) rfl
theorem wC_X7_isToBeDone : Cond.code yX7_isToBeDone cX7_isToBeDone 4 none ∈ xTb := xTb_of 780 (by decide +kernel) rfl
theorem wC_X7_arrives : Cond.code yX7_arrives cX7_arrives 4 none ∈ xTb := xTb_of 792 (by decide +kernel) rfl
theorem wC_X7_comesBack : Cond.code yX7_comesBack cX7_comesBack 5 none ∈ xTb := xTb_of 788 (by decide +kernel) rfl
theorem wC_X7_sendsAnswer : Cond.code yX7_sendsAnswer cX7_sendsAnswer 7 none ∈ xTb := xTb_of 784 (by decide +kernel) rfl
theorem wC_X7_settles : Cond.code yX7_settles cX7_settles 5 none ∈ xTb := xTb_of 776 (by decide +kernel) rfl
theorem wC_X7_losesMessage : Cond.code yX7_losesMessage cX7_losesMessage 3 none ∈ xTb := xTb_of 832 (by decide +kernel) rfl
theorem wC_X7_sends : Cond.code yX7_sends cX7_sends 6 none ∈ xTb := xTb_of 828 (by decide +kernel) rfl
theorem wC_X7_sendsToThing : Cond.code yX7_sendsToThing cX7_sendsToThing 4 none ∈ xTb := xTb_of 824 (by decide +kernel) rfl
theorem wC_X7_goesOn : Cond.code yX7_goesOn cX7_goesOn 5 none ∈ xTb := xTb_of 820 (by decide +kernel) rfl
theorem wC_X7_firstKept : Cond.code yX7_firstKept cX7_firstKept 6 (some .int) ∈ xTb := xTb_of 772 (by decide +kernel) rfl
theorem wC_X7_doesOne : Cond.code yX7_doesOne cX7_doesOne 5 none ∈ xTb := xTb_of 816 (by decide +kernel) rfl
theorem wC_X7_doesAll : Cond.code yX7_doesAll cX7_doesAll 2 none ∈ xTb := xTb_of 812 (by decide +kernel) rfl
theorem wC_X7_answers : Cond.code yX7_answers cX7_answers 4 none ∈ xTb := xTb_of 903 (by decide +kernel) rfl
theorem wC_X7_breaks : Cond.code yX7_breaks cX7_breaks 3 none ∈ xTb := xTb_of 907 (by decide +kernel) rfl
theorem wC_X7_cell : Cond.code yX7_cell cX7_cell 3 none ∈ xTb := xTb_of 899 (by decide +kernel) rfl
theorem wC_X7_moves : Cond.code yX7_moves cX7_moves 3 none ∈ xTb := xTb_of 916 (by decide +kernel) rfl
theorem wC_X7_purse : Cond.code yX7_purse cX7_purse 3 none ∈ xTb := xTb_of 911 (by decide +kernel) rfl
theorem wC_X7_maker : Cond.code yX7_maker cX7_maker 2 none ∈ xTb := xTb_of 920 (by decide +kernel) rfl
theorem wC_X7_guardHears : Cond.code yX7_guardHears cX7_guardHears 2 none ∈ xTb := xTb_of 925 (by decide +kernel) rfl
theorem wC_X7_switchHears : Cond.code yX7_switchHears cX7_switchHears 2 none ∈ xTb := xTb_of 930 (by decide +kernel) rfl
theorem wC_X7_holds : Cond.code yX7_holds cX7_holds 2 none ∈ xTb := xTb_of 940 (by decide +kernel) rfl
theorem wC_X7_answersAll : Cond.code yX7_answersAll cX7_answersAll 5 (some .int) ∈ xTb := xTb_of 768 (by decide +kernel) rfl
theorem wC_X7_joiner : Cond.code yX7_joiner cX7_joiner 4 none ∈ xTb := xTb_of 935 (by decide +kernel) rfl
theorem wC_X7_sleeper : Cond.code yX7_sleeper cX7_sleeper 2 none ∈ xTb := xTb_of 944 (by decide +kernel) rfl
theorem wC_X7_hears : Cond.code yX7_hears cX7_hears 2 none ∈ xTb := xTb_of 895 (by decide +kernel) rfl
theorem wC_X7_wake : Cond.code yX7_wake cX7_wake 4 (some .int) ∈ xTb := xTb_of 764 (by decide +kernel) rfl
theorem wC_X7_isOf : Cond.code yX7_isOf cX7_isOf 3 (some .boolean) ∈ xTb := xTb_of 844 (by decide +kernel) rfl
theorem wC_X7_ask : Cond.code yX7_ask cX7_ask 9 (some .int) ∈ xTb := xTb_of 836 (by decide +kernel) rfl
theorem wC_X7_stateIn : Cond.code yX7_stateIn cX7_stateIn 3 (some .int) ∈ xTb := xTb_of 852 (by decide +kernel) rfl
theorem wC_X7_valueIn : Cond.code yX7_valueIn cX7_valueIn 3 (some .int) ∈ xTb := xTb_of 856 (by decide +kernel) rfl
theorem wC_X7_when : Cond.code yX7_when cX7_when 4 (some .int) ∈ xTb := xTb_of 848 (by decide +kernel) rfl
theorem wC_X7_state : Cond.code yX7_state cX7_state 4 (some .int) ∈ xTb := xTb_of 860 (by decide +kernel) rfl
theorem wC_X7_waitsFor : Cond.code yX7_waitsFor cX7_waitsFor 4 (some .int) ∈ xTb := xTb_of 868 (by decide +kernel) rfl
theorem wC_X7_promise : Cond.code yX7_promise cX7_promise 3 (some .int) ∈ xTb := xTb_of 864 (by decide +kernel) rfl
theorem wC_X7_firstLetter : Cond.code yX7_firstLetter cX7_firstLetter 4 (some .int) ∈ xTb := xTb_of 879 (by decide +kernel) rfl
theorem wC_X7_takesOut : Cond.code yX7_takesOut cX7_takesOut 3 none ∈ xTb := xTb_of 887 (by decide +kernel) rfl
theorem wC_X7_comesToThing : Cond.code yX7_comesToThing cX7_comesToThing 1 none ∈ xTb := xTb_of 891 (by decide +kernel) rfl
theorem wC_X7_comesToPromise : Cond.code yX7_comesToPromise cX7_comesToPromise 3 none ∈ xTb := xTb_of 949 (by decide +kernel) rfl
theorem wC_X7_delivers : Cond.code yX7_delivers cX7_delivers 3 (some .int) ∈ xTb := xTb_of 883 (by decide +kernel) rfl
theorem wC_X7_areHouses : Cond.code yX7_areHouses cX7_areHouses 2 (some .boolean) ∈ xTb := xTb_of 875 (by decide +kernel) rfl
theorem wC_X7_deliver : Cond.code yX7_deliver cX7_deliver 4 (some .int) ∈ xTb := xTb_of 872 (by decide +kernel) rfl
theorem wC_X7_flow : Cond.code yX7_flow cX7_flow 5 (some .int) ∈ xTb := xTb_of 953 (by decide +kernel) rfl
theorem wC_X7_losesAll : Cond.code yX7_losesAll cX7_losesAll 5 (some .int) ∈ xTb := xTb_of 961 (by decide +kernel) rfl
theorem wC_X7_cut : Cond.code yX7_cut cX7_cut 6 (some .int) ∈ xTb := xTb_of 957 (by decide +kernel) rfl
theorem wC_X7_again : Cond.code yX7_again cX7_again 3 (some .int) ∈ xTb := xTb_of 965 (by decide +kernel) rfl
theorem wC_X7_wire : Cond.code yX7_wire cX7_wire 5 (some .int) ∈ xTb := xTb_of 969 (by decide +kernel) rfl
theorem wC_X7_letterOf : Cond.code yX7_letterOf cX7_letterOf 6 (some .int) ∈ xTb := xTb_of 977 (by decide +kernel) rfl
theorem wC_X7_letter : Cond.code yX7_letter cX7_letter 7 (some .int) ∈ xTb := xTb_of 973 (by decide +kernel) rfl
theorem wC_X7_purses : Cond.code yX7_purses cX7_purses 4 (some .long) ∈ xTb := xTb_of 981 (by decide +kernel) rfl
theorem wC_X7_countWhere : Cond.code yX7_countWhere cX7_countWhere 4 (some .int) ∈ xTb := xTb_of 989 (by decide +kernel) rfl
theorem wC_X7_count : Cond.code yX7_count cX7_count 4 (some .int) ∈ xTb := xTb_of 985 (by decide +kernel) rfl
theorem wC_X7_trace : Cond.code yX7_trace cX7_trace 1 (some .long) ∈ xTb := xTb_of 993 (by decide +kernel) rfl
theorem ok_X0_init : xOk M_X0_init 0 := ⟨wC_X0_init, wN_X0, by decide +kernel⟩
theorem ok_X0_add : xOk M_X0_add 1 := ⟨wC_X0_add, wN_X0, by decide +kernel⟩
theorem ok_X0_take : xOk M_X0_take 0 := ⟨wC_X0_take, wN_X0, by decide +kernel⟩
theorem ok_X0_at : xOk M_X0_at 1 := ⟨wC_X0_at, wN_X0, by decide +kernel⟩
theorem ok_X0_sumOfNs : xOk M_X0_sumOfNs 0 := ⟨wC_X0_sumOfNs, wN_X0, by decide +kernel⟩
theorem ok_X1_init : xOk M_X1_init 3 := ⟨wC_X1_init, wN_X1, by decide +kernel⟩
theorem ok_X1_answer : xOk M_X1_answer 2 := ⟨wC_X1_answer, wN_X1, by decide +kernel⟩
theorem ok_X1_breakByCut : xOk M_X1_breakByCut 0 := ⟨wC_X1_breakByCut, wN_X1, by decide +kernel⟩
theorem ok_X1_destination : xOk M_X1_destination 0 := ⟨wC_X1_destination, wN_X1, by decide +kernel⟩
theorem ok_X1_whatLetter : xOk M_X1_whatLetter 0 := ⟨wC_X1_whatLetter, wN_X1, by decide +kernel⟩
theorem ok_X2_init : xOk M_X2_init 4 := ⟨wC_X2_init, wN_X2, by decide +kernel⟩
theorem ok_X2_isKnownIn : xOk M_X2_isKnownIn 1 := ⟨wC_X2_isKnownIn, wN_X2, by decide +kernel⟩
theorem ok_X2_howIn : xOk M_X2_howIn 1 := ⟨wC_X2_howIn, wN_X2, by decide +kernel⟩
theorem ok_X2_valueIn : xOk M_X2_valueIn 1 := ⟨wC_X2_valueIn, wN_X2, by decide +kernel⟩
theorem ok_X3_init : xOk M_X3_init 6 := ⟨wC_X3_init, wN_X3, by decide +kernel⟩
theorem ok_X4_init : xOk M_X4_init 3 := ⟨wC_X4_init, wN_X4, by decide +kernel⟩
theorem ok_X5_init : xOk M_X5_init 2 := ⟨wC_X5_init, wN_X5, by decide +kernel⟩
theorem ok_X6_init : xOk M_X6_init 0 := ⟨wC_X6_init, wN_X6, by decide +kernel⟩
theorem ok_X6_isHouse : xOk M_X6_isHouse 1 := ⟨wC_X6_isHouse, wN_X6, by decide +kernel⟩
theorem ok_X6_mayBegin : xOk M_X6_mayBegin 2 := ⟨wC_X6_mayBegin, wN_X6, by decide +kernel⟩
theorem ok_X6_addThing : xOk M_X6_addThing 5 := ⟨wC_X6_addThing, wN_X6, by decide +kernel⟩
theorem ok_X6_thing : xOk M_X6_thing 3 := ⟨wC_X6_thing, wN_X6, by decide +kernel⟩
theorem ok_X6_thingAt : xOk M_X6_thingAt 1 := ⟨wC_X6_thingAt, wN_X6, by decide +kernel⟩
theorem ok_X6_guard : xOk M_X6_guard 4 := ⟨wC_X6_guard, wN_X6, by decide +kernel⟩
theorem ok_X6_oneIf : xOk M_X6_oneIf 1 := ⟨wC_X6_oneIf, wN_X6, by decide +kernel⟩
theorem ok_X6_shut : xOk M_X6_shut 2 := ⟨wC_X6_shut, wN_X6, by decide +kernel⟩
theorem ok_X6_back : xOk M_X6_back 1 := ⟨wC_X6_back, wN_X6, by decide +kernel⟩
theorem ok_X6_wireAt : xOk M_X6_wireAt 2 := ⟨wC_X6_wireAt, wN_X6, by decide +kernel⟩
theorem ok_X6_post : xOk M_X6_post 3 := ⟨wC_X6_post, wN_X6, by decide +kernel⟩
theorem ok_X6_settle : xOk M_X6_settle 2 := ⟨wC_X6_settle, wN_X6, by decide +kernel⟩
theorem ok_X6_answerHeld : xOk M_X6_answerHeld 2 := ⟨wC_X6_answerHeld, wN_X6, by decide +kernel⟩
theorem ok_X6_send : xOk M_X6_send 2 := ⟨wC_X6_send, wN_X6, by decide +kernel⟩
theorem ok_X6_sendOn : xOk M_X6_sendOn 2 := ⟨wC_X6_sendOn, wN_X6, by decide +kernel⟩
theorem ok_X6_postWhen : xOk M_X6_postWhen 1 := ⟨wC_X6_postWhen, wN_X6, by decide +kernel⟩
theorem ok_X6_postWhens : xOk M_X6_postWhens 2 := ⟨wC_X6_postWhens, wN_X6, by decide +kernel⟩
theorem ok_X6_tellAsker : xOk M_X6_tellAsker 2 := ⟨wC_X6_tellAsker, wN_X6, by decide +kernel⟩
theorem ok_X6_fulfil : xOk M_X6_fulfil 2 := ⟨wC_X6_fulfil, wN_X6, by decide +kernel⟩
theorem ok_X6_doAll : xOk M_X6_doAll 0 := ⟨wC_X6_doAll, wN_X6, by decide +kernel⟩
theorem ok_X6_wake : xOk M_X6_wake 2 := ⟨wC_X6_wake, wN_X6, by decide +kernel⟩
theorem ok_X6_about : xOk M_X6_about 2 := ⟨wC_X6_about, wN_X6, by decide +kernel⟩
theorem ok_X6_promiseAt : xOk M_X6_promiseAt 1 := ⟨wC_X6_promiseAt, wN_X6, by decide +kernel⟩
theorem ok_X6_ask : xOk M_X6_ask 6 := ⟨wC_X6_ask, wN_X6, by decide +kernel⟩
theorem ok_X6_when : xOk M_X6_when 3 := ⟨wC_X6_when, wN_X6, by decide +kernel⟩
theorem ok_X6_state : xOk M_X6_state 3 := ⟨wC_X6_state, wN_X6, by decide +kernel⟩
theorem ok_X6_promise : xOk M_X6_promise 2 := ⟨wC_X6_promise, wN_X6, by decide +kernel⟩
theorem ok_X6_receiveAnswer : xOk M_X6_receiveAnswer 2 := ⟨wC_X6_receiveAnswer, wN_X6, by decide +kernel⟩
theorem ok_X6_reachPromise : xOk M_X6_reachPromise 2 := ⟨wC_X6_reachPromise, wN_X6, by decide +kernel⟩
theorem ok_X6_hearAsCell : xOk M_X6_hearAsCell 2 := ⟨wC_X6_hearAsCell, wN_X6, by decide +kernel⟩
theorem ok_X6_hearAsPurse : xOk M_X6_hearAsPurse 2 := ⟨wC_X6_hearAsPurse, wN_X6, by decide +kernel⟩
theorem ok_X6_hearAsMaker : xOk M_X6_hearAsMaker 2 := ⟨wC_X6_hearAsMaker, wN_X6, by decide +kernel⟩
theorem ok_X6_hearAsGuard : xOk M_X6_hearAsGuard 2 := ⟨wC_X6_hearAsGuard, wN_X6, by decide +kernel⟩
theorem ok_X6_hearAsSwitch : xOk M_X6_hearAsSwitch 2 := ⟨wC_X6_hearAsSwitch, wN_X6, by decide +kernel⟩
theorem ok_X6_hearAsJoiner : xOk M_X6_hearAsJoiner 2 := ⟨wC_X6_hearAsJoiner, wN_X6, by decide +kernel⟩
theorem ok_X6_hearAsSleeper : xOk M_X6_hearAsSleeper 2 := ⟨wC_X6_hearAsSleeper, wN_X6, by decide +kernel⟩
theorem ok_X6_hear : xOk M_X6_hear 2 := ⟨wC_X6_hear, wN_X6, by decide +kernel⟩
theorem ok_X6_hold : xOk M_X6_hold 2 := ⟨wC_X6_hold, wN_X6, by decide +kernel⟩
theorem ok_X6_takeTurn : xOk M_X6_takeTurn 2 := ⟨wC_X6_takeTurn, wN_X6, by decide +kernel⟩
theorem ok_X6_deliverFirst : xOk M_X6_deliverFirst 1 := ⟨wC_X6_deliverFirst, wN_X6, by decide +kernel⟩
theorem ok_X6_deliver : xOk M_X6_deliver 2 := ⟨wC_X6_deliver, wN_X6, by decide +kernel⟩
theorem ok_X6_firstWireWithLetters : xOk M_X6_firstWireWithLetters 0 := ⟨wC_X6_firstWireWithLetters, wN_X6, by decide +kernel⟩
theorem ok_X6_flow : xOk M_X6_flow 1 := ⟨wC_X6_flow, wN_X6, by decide +kernel⟩
theorem ok_X6_loseFirst : xOk M_X6_loseFirst 1 := ⟨wC_X6_loseFirst, wN_X6, by decide +kernel⟩
theorem ok_X6_cut : xOk M_X6_cut 2 := ⟨wC_X6_cut, wN_X6, by decide +kernel⟩
theorem ok_X6_again : xOk M_X6_again 2 := ⟨wC_X6_again, wN_X6, by decide +kernel⟩
theorem ok_X6_wire : xOk M_X6_wire 2 := ⟨wC_X6_wire, wN_X6, by decide +kernel⟩
theorem ok_X6_letter : xOk M_X6_letter 4 := ⟨wC_X6_letter, wN_X6, by decide +kernel⟩
theorem ok_X6_movedBy : xOk M_X6_movedBy 1 := ⟨wC_X6_movedBy, wN_X6, by decide +kernel⟩
theorem ok_X6_purses : xOk M_X6_purses 0 := ⟨wC_X6_purses, wN_X6, by decide +kernel⟩
theorem ok_X6_openAtHome : xOk M_X6_openAtHome 0 := ⟨wC_X6_openAtHome, wN_X6, by decide +kernel⟩
theorem ok_X6_lettersUnderWay : xOk M_X6_lettersUnderWay 0 := ⟨wC_X6_lettersUnderWay, wN_X6, by decide +kernel⟩
theorem ok_X6_wiresCut : xOk M_X6_wiresCut 0 := ⟨wC_X6_wiresCut, wN_X6, by decide +kernel⟩
theorem ok_X6_messagesHeld : xOk M_X6_messagesHeld 0 := ⟨wC_X6_messagesHeld, wN_X6, by decide +kernel⟩
theorem ok_X6_messagesWaiting : xOk M_X6_messagesWaiting 0 := ⟨wC_X6_messagesWaiting, wN_X6, by decide +kernel⟩
theorem ok_X6_count : xOk M_X6_count 1 := ⟨wC_X6_count, wN_X6, by decide +kernel⟩
theorem ok_X6_trace : xOk M_X6_trace 0 := ⟨wC_X6_trace, wN_X6, by decide +kernel⟩
theorem ok_X7_init : xOk M_X7_init 0 := ⟨wC_X7_init, wN_X7, by decide +kernel⟩
theorem ok_X7_in : xOk M_X7_in 3 := ⟨wC_X7_in, wN_X7, by decide +kernel⟩
theorem ok_X7_isThing : xOk M_X7_isThing 1 := ⟨wC_X7_isThing, wN_X7, by decide +kernel⟩
theorem ok_X7_isPromise : xOk M_X7_isPromise 1 := ⟨wC_X7_isPromise, wN_X7, by decide +kernel⟩
theorem ok_X7_comes : xOk M_X7_comes 5 := ⟨wC_X7_comes, wN_X7, by decide +kernel⟩
theorem ok_X7_thing : xOk M_X7_thing 3 := ⟨wC_X7_thing, wN_X7, by decide +kernel⟩
theorem ok_X7_guard : xOk M_X7_guard 4 := ⟨wC_X7_guard, wN_X7, by decide +kernel⟩
theorem ok_X7_shut : xOk M_X7_shut 2 := ⟨wC_X7_shut, wN_X7, by decide +kernel⟩
theorem ok_X7_back : xOk M_X7_back 1 := ⟨wC_X7_back, wN_X7, by decide +kernel⟩
theorem ok_X7_about : xOk M_X7_about 2 := ⟨wC_X7_about, wN_X7, by decide +kernel⟩
theorem ok_X7_posts : xOk M_X7_posts 9 := ⟨wC_X7_posts, wN_X7, by decide +kernel⟩
theorem ok_X7_sendsWhen : xOk M_X7_sendsWhen 3 := ⟨wC_X7_sendsWhen, wN_X7, by decide +kernel⟩
theorem ok_X7_postsWhen : xOk M_X7_postsWhen 3 := ⟨wC_X7_postsWhen, wN_X7, by decide +kernel⟩
theorem ok_X7_postsWhens : xOk M_X7_postsWhens 4 := ⟨wC_X7_postsWhens, wN_X7, by decide +kernel⟩
theorem ok_X7_isToBeDone : xOk M_X7_isToBeDone 3 := ⟨wC_X7_isToBeDone, wN_X7, by decide +kernel⟩
theorem ok_X7_arrives : xOk M_X7_arrives 3 := ⟨wC_X7_arrives, wN_X7, by decide +kernel⟩
theorem ok_X7_comesBack : xOk M_X7_comesBack 4 := ⟨wC_X7_comesBack, wN_X7, by decide +kernel⟩
theorem ok_X7_sendsAnswer : xOk M_X7_sendsAnswer 5 := ⟨wC_X7_sendsAnswer, wN_X7, by decide +kernel⟩
theorem ok_X7_settles : xOk M_X7_settles 4 := ⟨wC_X7_settles, wN_X7, by decide +kernel⟩
theorem ok_X7_losesMessage : xOk M_X7_losesMessage 2 := ⟨wC_X7_losesMessage, wN_X7, by decide +kernel⟩
theorem ok_X7_sends : xOk M_X7_sends 5 := ⟨wC_X7_sends, wN_X7, by decide +kernel⟩
theorem ok_X7_sendsToThing : xOk M_X7_sendsToThing 3 := ⟨wC_X7_sendsToThing, wN_X7, by decide +kernel⟩
theorem ok_X7_goesOn : xOk M_X7_goesOn 4 := ⟨wC_X7_goesOn, wN_X7, by decide +kernel⟩
theorem ok_X7_firstKept : xOk M_X7_firstKept 2 := ⟨wC_X7_firstKept, wN_X7, by decide +kernel⟩
theorem ok_X7_doesOne : xOk M_X7_doesOne 3 := ⟨wC_X7_doesOne, wN_X7, by decide +kernel⟩
theorem ok_X7_doesAll : xOk M_X7_doesAll 0 := ⟨wC_X7_doesAll, wN_X7, by decide +kernel⟩
theorem ok_X7_answers : xOk M_X7_answers 3 := ⟨wC_X7_answers, wN_X7, by decide +kernel⟩
theorem ok_X7_breaks : xOk M_X7_breaks 2 := ⟨wC_X7_breaks, wN_X7, by decide +kernel⟩
theorem ok_X7_cell : xOk M_X7_cell 1 := ⟨wC_X7_cell, wN_X7, by decide +kernel⟩
theorem ok_X7_moves : xOk M_X7_moves 1 := ⟨wC_X7_moves, wN_X7, by decide +kernel⟩
theorem ok_X7_purse : xOk M_X7_purse 1 := ⟨wC_X7_purse, wN_X7, by decide +kernel⟩
theorem ok_X7_maker : xOk M_X7_maker 1 := ⟨wC_X7_maker, wN_X7, by decide +kernel⟩
theorem ok_X7_guardHears : xOk M_X7_guardHears 1 := ⟨wC_X7_guardHears, wN_X7, by decide +kernel⟩
theorem ok_X7_switchHears : xOk M_X7_switchHears 1 := ⟨wC_X7_switchHears, wN_X7, by decide +kernel⟩
theorem ok_X7_holds : xOk M_X7_holds 1 := ⟨wC_X7_holds, wN_X7, by decide +kernel⟩
theorem ok_X7_answersAll : xOk M_X7_answersAll 2 := ⟨wC_X7_answersAll, wN_X7, by decide +kernel⟩
theorem ok_X7_joiner : xOk M_X7_joiner 1 := ⟨wC_X7_joiner, wN_X7, by decide +kernel⟩
theorem ok_X7_sleeper : xOk M_X7_sleeper 1 := ⟨wC_X7_sleeper, wN_X7, by decide +kernel⟩
theorem ok_X7_hears : xOk M_X7_hears 1 := ⟨wC_X7_hears, wN_X7, by decide +kernel⟩
theorem ok_X7_wake : xOk M_X7_wake 2 := ⟨wC_X7_wake, wN_X7, by decide +kernel⟩
theorem ok_X7_isOf : xOk M_X7_isOf 2 := ⟨wC_X7_isOf, wN_X7, by decide +kernel⟩
theorem ok_X7_ask : xOk M_X7_ask 6 := ⟨wC_X7_ask, wN_X7, by decide +kernel⟩
theorem ok_X7_stateIn : xOk M_X7_stateIn 2 := ⟨wC_X7_stateIn, wN_X7, by decide +kernel⟩
theorem ok_X7_valueIn : xOk M_X7_valueIn 2 := ⟨wC_X7_valueIn, wN_X7, by decide +kernel⟩
theorem ok_X7_when : xOk M_X7_when 3 := ⟨wC_X7_when, wN_X7, by decide +kernel⟩
theorem ok_X7_state : xOk M_X7_state 3 := ⟨wC_X7_state, wN_X7, by decide +kernel⟩
theorem ok_X7_waitsFor : xOk M_X7_waitsFor 1 := ⟨wC_X7_waitsFor, wN_X7, by decide +kernel⟩
theorem ok_X7_promise : xOk M_X7_promise 2 := ⟨wC_X7_promise, wN_X7, by decide +kernel⟩
theorem ok_X7_firstLetter : xOk M_X7_firstLetter 2 := ⟨wC_X7_firstLetter, wN_X7, by decide +kernel⟩
theorem ok_X7_takesOut : xOk M_X7_takesOut 1 := ⟨wC_X7_takesOut, wN_X7, by decide +kernel⟩
theorem ok_X7_comesToThing : xOk M_X7_comesToThing 0 := ⟨wC_X7_comesToThing, wN_X7, by decide +kernel⟩
theorem ok_X7_comesToPromise : xOk M_X7_comesToPromise 0 := ⟨wC_X7_comesToPromise, wN_X7, by decide +kernel⟩
theorem ok_X7_delivers : xOk M_X7_delivers 1 := ⟨wC_X7_delivers, wN_X7, by decide +kernel⟩
theorem ok_X7_areHouses : xOk M_X7_areHouses 2 := ⟨wC_X7_areHouses, wN_X7, by decide +kernel⟩
theorem ok_X7_deliver : xOk M_X7_deliver 2 := ⟨wC_X7_deliver, wN_X7, by decide +kernel⟩
theorem ok_X7_flow : xOk M_X7_flow 1 := ⟨wC_X7_flow, wN_X7, by decide +kernel⟩
theorem ok_X7_losesAll : xOk M_X7_losesAll 2 := ⟨wC_X7_losesAll, wN_X7, by decide +kernel⟩
theorem ok_X7_cut : xOk M_X7_cut 2 := ⟨wC_X7_cut, wN_X7, by decide +kernel⟩
theorem ok_X7_again : xOk M_X7_again 2 := ⟨wC_X7_again, wN_X7, by decide +kernel⟩
theorem ok_X7_wire : xOk M_X7_wire 2 := ⟨wC_X7_wire, wN_X7, by decide +kernel⟩
theorem ok_X7_letterOf : xOk M_X7_letterOf 3 := ⟨wC_X7_letterOf, wN_X7, by decide +kernel⟩
theorem ok_X7_letter : xOk M_X7_letter 4 := ⟨wC_X7_letter, wN_X7, by decide +kernel⟩
theorem ok_X7_purses : xOk M_X7_purses 0 := ⟨wC_X7_purses, wN_X7, by decide +kernel⟩
theorem ok_X7_countWhere : xOk M_X7_countWhere 1 := ⟨wC_X7_countWhere, wN_X7, by decide +kernel⟩
theorem ok_X7_count : xOk M_X7_count 1 := ⟨wC_X7_count, wN_X7, by decide +kernel⟩
theorem ok_X7_trace : xOk M_X7_trace 0 := ⟨wC_X7_trace, wN_X7, by decide +kernel⟩
end
section
-- PromiseWire$Line.<init>()V
def wp_X0_init (σ : xS) (a0 : Nat) (Q : Prop) : Prop := Q
set_option maxRecDepth 100000 in
set_option maxHeartbeats 4000000 in
theorem ct_X0_init {σ : xS} {a0 : Nat}  {Q : Prop} (hk0 : xh_k σ a0 = 1) (hw : wp_X0_init σ a0 Q) : xCt M_X0_init [.ref a0] σ (xqV (fun σ2 => σ2 = σ ∧ Q )) := by
  refine xCt_ofL (lv := [(0, .ref a0)]) pn_X0 (Nat.le_of_ble_eq_true rfl) rfl ?_
  unfold wp_X0_init at hw
  refine x_aload_n dX0_init_0 rfl 0 rfl ?_
  refine x_objInit dX0_init_1 wO_X0_1 wI_obj wC_obj (Nat.le_of_ble_eq_true rfl) (Nat.le_of_ble_eq_true rfl) (Nat.le_of_ble_eq_true rfl) ?_
  exact x_vret dX0_init_4 rfl ⟨rfl, rfl, hw⟩
-- PromiseWire$Line.add(LPromiseWire$Message;)V
def wb_X0_add_28 (Q : xS → Prop) (σ : xS) (a0 : Nat) (l1 : Nat) : Prop := ∀ σ1, σ1 = xs_R σ 1 a0 (some l1) → (∀ σ2, σ2 = xs_I σ1 2 a0 ((xh_I σ1 2 a0) + 1) → (Q σ2))
set_option maxRecDepth 100000 in
set_option maxHeartbeats 4000000 in
theorem xb_X0_add_28 {Q : xS → Prop} {σ : xS} {a0 : Nat}  {l1 : Nat} (hk0 : xh_k σ a0 = 1)  (hw : wb_X0_add_28 Q σ a0 l1) : xX M_X0_add 28 [(0, .ref a0), (1, .ref l1)] [] σ (xqV (fun σ2 => Q σ2)) := by
  unfold wb_X0_add_28 at hw
  refine x_aload_n dX0_add_28 rfl 0 rfl ?_
  refine x_aload_n dX0_add_29 rfl 1 rfl ?_
  refine x_putRN (r := (some l1)) (ci := 0) (k := 1) (f := 1) dX0_add_30 wF_X0_13 (Nat.le_of_ble_eq_true rfl) (Nat.le_of_ble_eq_true rfl) hk0 (Or.inl rfl) rfl rfl (fun σ1 hσ1 => ?_)
  replace hw := hw σ1 hσ1
  refine x_aload_n dX0_add_33 rfl 0 rfl ?_
  refine x_dup dX0_add_34 rfl ?_
  refine x_get (ci := 0) (k := 2) (v := .int (xh_I σ1 2 a0)) dX0_add_35 wF_X0_21 (Nat.le_of_ble_eq_true rfl) (Nat.le_of_ble_eq_true rfl) (xk_R hσ1 hk0) rfl ?_
  refine x_iconst dX0_add_38 cI_1 ?_
  refine x_iadd dX0_add_39 ?_
  refine x_putIN (ci := 0) (k := 2) (f := 2) dX0_add_40 wF_X0_21 (Nat.le_of_ble_eq_true rfl) (Nat.le_of_ble_eq_true rfl) (xk_R hσ1 hk0) (Or.inl rfl) rfl (Or.inl rfl) (fun σ2 hσ2 => ?_)
  replace hw := hw σ2 hσ2
  exact x_vret dX0_add_43 rfl ⟨rfl, hw⟩
def wp_X0_add (σ : xS) (a0 : Nat) (l1 : Nat) (Q : xS → Prop) : Prop := xh_k σ l1 = 2 ∧ ∀ σ4, σ4 = xs_R σ 76 l1 none → ((xh_R σ4 1 a0 = none → ∀ σ8, σ8 = xs_R σ4 0 a0 (some l1) → (wb_X0_add_28 Q σ8 a0 l1)) ∧ (∀ a6, xh_R σ4 1 a0 = some a6 → xh_k σ4 a6 = 2 ∧ ∀ σ10, σ10 = xs_R σ4 76 a6 (some l1) → (wb_X0_add_28 Q σ10 a0 l1)))
set_option maxRecDepth 100000 in
set_option maxHeartbeats 4000000 in
theorem ct_X0_add {σ : xS} {a0 : Nat}  {l1 : Nat} {Q : xS → Prop} (hk0 : xh_k σ a0 = 1) (hw : wp_X0_add σ a0 l1 Q) : xCt M_X0_add [.ref a0, .ref l1] σ (xqV (fun σ2 => Q σ2)) := by
  refine xCt_ofL (lv := [(0, .ref a0), (1, .ref l1)]) pn_X0 (Nat.le_of_ble_eq_true rfl) rfl ?_
  unfold wp_X0_add at hw
  refine x_aload_n dX0_add_0 rfl 1 rfl ?_
  refine x_null dX0_add_1 ?_
  obtain ⟨hk3, hw⟩ := hw
  refine x_putRN (r := none) (ci := 1) (k := 12) (f := 76) dX0_add_2 wF_X0_7 (Nat.le_of_ble_eq_true rfl) (Nat.le_of_ble_eq_true rfl) hk3 (Or.inl rfl) rfl rfl (fun σ4 hσ4 => ?_)
  replace hw := hw σ4 hσ4
  refine x_aload_n dX0_add_5 rfl 0 rfl ?_
  refine x_get (ci := 0) (k := 1) (v := va_rf (xh_R σ4 1 a0)) dX0_add_6 wF_X0_13 (Nat.le_of_ble_eq_true rfl) (Nat.le_of_ble_eq_true rfl) (xk_R hσ4 hk0) rfl ?_
  refine x_ifnonnull 20 dX0_add_9 rfl (fun hn5 => ?_) (fun a6 hs7 => ?_)
  · replace hw := hw.1 hn5
    refine x_aload_n dX0_add_12 rfl 0 rfl ?_
    refine x_aload_n dX0_add_13 rfl 1 rfl ?_
    refine x_putRN (r := (some l1)) (ci := 0) (k := 0) (f := 0) dX0_add_14 wF_X0_18 (Nat.le_of_ble_eq_true rfl) (Nat.le_of_ble_eq_true rfl) (xk_R hσ4 hk0) (Or.inl rfl) rfl rfl (fun σ8 hσ8 => ?_)
    replace hw := hw σ8 hσ8
    refine x_goto 28 dX0_add_17 rfl ?_
    exact x_sub [0, 1] rfl (xb_X0_add_28 (xk_R hσ8 (xk_R hσ4 hk0)) hw)
  · replace hw := hw.2 a6 hs7
    refine x_aload_n dX0_add_20 rfl 0 rfl ?_
    refine x_get (ci := 0) (k := 1) (v := .ref a6) dX0_add_21 wF_X0_13 (Nat.le_of_ble_eq_true rfl) (Nat.le_of_ble_eq_true rfl) (xk_R hσ4 hk0) (congrArg va_rf hs7) ?_
    refine x_aload_n dX0_add_24 rfl 1 rfl ?_
    obtain ⟨hk9, hw⟩ := hw
    refine x_putRN (r := (some l1)) (ci := 1) (k := 12) (f := 76) dX0_add_25 wF_X0_7 (Nat.le_of_ble_eq_true rfl) (Nat.le_of_ble_eq_true rfl) hk9 (Or.inl rfl) rfl rfl (fun σ10 hσ10 => ?_)
    replace hw := hw σ10 hσ10
    exact x_sub [0, 1] rfl (xb_X0_add_28 (xk_R hσ10 (xk_R hσ4 hk0)) hw)
-- PromiseWire$Line.take()LPromiseWire$Message;
def wb_X0_take_31 (Q : Option Nat → xS → Prop) (σ : xS) (a0 : Nat) (l1 : Nat) : Prop := xh_k σ l1 = 2 ∧ ∀ σ2, σ2 = xs_R σ 76 l1 none → (∀ σ3, σ3 = xs_I σ2 2 a0 ((xh_I σ2 2 a0) - 1) → (Q (some l1) σ3))
set_option maxRecDepth 100000 in
set_option maxHeartbeats 4000000 in
theorem xb_X0_take_31 {Q : Option Nat → xS → Prop} {σ : xS} {a0 : Nat}  {l1 : Nat} (hk0 : xh_k σ a0 = 1)  (hw : wb_X0_take_31 Q σ a0 l1) : xX M_X0_take 31 [(0, .ref a0), (1, .ref l1)] [] σ (xqR (fun r σ2 => Q r σ2)) := by
  unfold wb_X0_take_31 at hw
  refine x_aload_n dX0_take_31 rfl 1 rfl ?_
  refine x_null dX0_take_32 ?_
  obtain ⟨hk1, hw⟩ := hw
  refine x_putRN (r := none) (ci := 1) (k := 12) (f := 76) dX0_take_33 wF_X0_7 (Nat.le_of_ble_eq_true rfl) (Nat.le_of_ble_eq_true rfl) hk1 (Or.inl rfl) rfl rfl (fun σ2 hσ2 => ?_)
  replace hw := hw σ2 hσ2
  refine x_aload_n dX0_take_36 rfl 0 rfl ?_
  refine x_dup dX0_take_37 rfl ?_
  refine x_get (ci := 0) (k := 2) (v := .int (xh_I σ2 2 a0)) dX0_take_38 wF_X0_21 (Nat.le_of_ble_eq_true rfl) (Nat.le_of_ble_eq_true rfl) (xk_R hσ2 hk0) rfl ?_
  refine x_iconst dX0_take_41 cI_1 ?_
  refine x_isub dX0_take_42 ?_
  refine x_putIN (ci := 0) (k := 2) (f := 2) dX0_take_43 wF_X0_21 (Nat.le_of_ble_eq_true rfl) (Nat.le_of_ble_eq_true rfl) (xk_R hσ2 hk0) (Or.inl rfl) rfl (Or.inl rfl) (fun σ3 hσ3 => ?_)
  replace hw := hw σ3 hσ3
  refine x_aload_n dX0_take_46 rfl 1 rfl ?_
  exact x_aret (r := (some l1)) dX0_take_47 rfl ⟨(some l1), rfl, hw⟩
def wp_X0_take (σ : xS) (a0 : Nat) (Q : Option Nat → xS → Prop) : Prop := (xh_R σ 0 a0 = none → Q none σ) ∧ (∀ a5, xh_R σ 0 a0 = some a5 → xh_k σ a5 = 2 ∧ (∀ σ8, σ8 = xs_R σ 0 a0 (xh_R σ 76 a5) → ((xh_R σ8 0 a0 = none → ∀ σ12, σ12 = xs_R σ8 1 a0 none → (wb_X0_take_31 Q σ12 a0 a5)) ∧ (∀ a10, xh_R σ8 0 a0 = some a10 → wb_X0_take_31 Q σ8 a0 a5))))
set_option maxRecDepth 100000 in
set_option maxHeartbeats 4000000 in
theorem ct_X0_take {σ : xS} {a0 : Nat}  {Q : Option Nat → xS → Prop} (hk0 : xh_k σ a0 = 1) (hw : wp_X0_take σ a0 Q) : xCt M_X0_take [.ref a0] σ (xqR (fun r σ2 => Q r σ2)) := by
  refine xCt_ofL (lv := [(0, .ref a0)]) pn_X0 (Nat.le_of_ble_eq_true rfl) rfl ?_
  unfold wp_X0_take at hw
  refine x_aload_n dX0_take_0 rfl 0 rfl ?_
  refine x_get (ci := 0) (k := 0) (v := va_rf (xh_R σ 0 a0)) dX0_take_1 wF_X0_18 (Nat.le_of_ble_eq_true rfl) (Nat.le_of_ble_eq_true rfl) hk0 rfl ?_
  refine x_astore_nQ [(1, va_rf (xh_R σ 0 a0)), (0, .ref a0)] dX0_take_4 rfl (Nat.le_of_ble_eq_true rfl) rfl ?_
  refine x_aload_nQ dX0_take_5 rfl 0 rfl ?_
  refine x_ifnonnull 11 dX0_take_6 rfl (fun hn4 => ?_) (fun a5 hs6 => ?_)
  · replace hw := hw.1 hn4
    refine x_null dX0_take_9 ?_
    exact x_aret (r := none) dX0_take_10 rfl ⟨none, rfl, hw⟩
  · replace hw := hw.2 a5 hs6
    refine x_lvS 0 (lv2 := [(1, .ref a5), (0, .ref a0)]) rfl hs6 rfl ?_
    refine x_aload_n dX0_take_11 rfl 1 rfl ?_
    refine x_aload_n dX0_take_12 rfl 0 rfl ?_
    obtain ⟨hk7, hw⟩ := hw
    refine x_get (ci := 1) (k := 12) (v := va_rf (xh_R σ 76 a5)) dX0_take_13 wF_X0_7 (Nat.le_of_ble_eq_true rfl) (Nat.le_of_ble_eq_true rfl) hk7 rfl ?_
    refine x_putRN (r := (xh_R σ 76 a5)) (ci := 0) (k := 0) (f := 0) dX0_take_16 wF_X0_18 (Nat.le_of_ble_eq_true rfl) (Nat.le_of_ble_eq_true rfl) hk0 (Or.inl rfl) rfl rfl (fun σ8 hσ8 => ?_)
    replace hw := hw σ8 hσ8
    refine x_aload_n dX0_take_19 rfl 1 rfl ?_
    refine x_get (ci := 0) (k := 0) (v := va_rf (xh_R σ8 0 a0)) dX0_take_20 wF_X0_18 (Nat.le_of_ble_eq_true rfl) (Nat.le_of_ble_eq_true rfl) (xk_R hσ8 hk0) rfl ?_
    refine x_ifnonnull 31 dX0_take_23 rfl (fun hn9 => ?_) (fun a10 hs11 => ?_)
    · replace hw := hw.1 hn9
      refine x_aload_n dX0_take_26 rfl 1 rfl ?_
      refine x_null dX0_take_27 ?_
      refine x_putRN (r := none) (ci := 0) (k := 1) (f := 1) dX0_take_28 wF_X0_13 (Nat.le_of_ble_eq_true rfl) (Nat.le_of_ble_eq_true rfl) (xk_R hσ8 hk0) (Or.inl rfl) rfl rfl (fun σ12 hσ12 => ?_)
      replace hw := hw σ12 hσ12
      exact x_sub [1, 0] rfl (xb_X0_take_31 (xk_R hσ12 (xk_R hσ8 hk0)) hw)
    · replace hw := hw.2 a10 hs11
      exact x_sub [1, 0] rfl (xb_X0_take_31 (xk_R hσ8 hk0) hw)
-- PromiseWire$Line.at(I)LPromiseWire$Message;
def wb_X0_at_41 (Q : Option Nat → Prop) (σ : xS) (a0 : Nat) (l2 : Option Nat) : Prop := Q l2
set_option maxRecDepth 100000 in
set_option maxHeartbeats 4000000 in
theorem xb_X0_at_41 {Q : Option Nat → Prop} {σ : xS} {a0 : Nat}  {l2 : Option Nat} (hk0 : xh_k σ a0 = 1)  (hw : wb_X0_at_41 Q σ a0 l2) : xX M_X0_at 41 [(0, .ref a0), (2, va_rf l2)] [] σ (xqR (fun r σ2 => σ2 = σ ∧ Q r )) := by
  unfold wb_X0_at_41 at hw
  refine x_aload_nQ dX0_at_41 rfl 1 rfl ?_
  exact x_aret (r := l2) dX0_at_42 rfl ⟨l2, rfl, rfl, hw⟩
def wb_X0_at_21 (Q : Option Nat → Prop) (σ : xS) (a0 : Nat) : Nat → Int32 → Option Nat → Int32 → Prop
  | 0, _, _, _ => False
  | n + 1, l1, l2, l3 => (l1 ≤ l3 → wb_X0_at_41 Q σ a0 l2) ∧ (¬ l1 ≤ l3 → (l2 = none → wb_X0_at_41 Q σ a0 l2) ∧ (∀ a3, l2 = some a3 → xh_k σ a3 = 2 ∧ (wb_X0_at_21 Q σ a0 n l1 (xh_R σ 76 a3) (l3 + 1))))
set_option maxRecDepth 100000 in
set_option maxHeartbeats 4000000 in
theorem xl_X0_at_21 {Q : Option Nat → Prop} {σ : xS} {a0 : Nat}  (hk0 : xh_k σ a0 = 1)  : ∀ (n : Nat) (l1 : Int32) (l2 : Option Nat) (l3 : Int32), wb_X0_at_21 Q σ a0 n l1 l2 l3 → xX M_X0_at 21 [(0, .ref a0), (1, .int l1), (2, va_rf l2), (3, .int l3)] [] σ (xqR (fun r σ2 => σ2 = σ ∧ Q r )) := by
  intro n
  induction n with
  | zero => intro l1 l2 l3 hw; exact False.elim hw
  | succ n ih =>
    intro l1 l2 l3 hw
    unfold wb_X0_at_21 at hw
    refine x_iload_n dX0_at_21 rfl 3 rfl ?_
    refine x_iload_n dX0_at_22 rfl 1 rfl ?_
    refine x_icmp_ge 41 dX0_at_23 rfl (fun hc1 => ?_) (fun hc1 => ?_)
    · replace hw := hw.1 hc1
      exact x_sub [0, 2] rfl (xb_X0_at_41 hk0 hw)
    · replace hw := hw.2 hc1
      refine x_aload_nQ dX0_at_26 rfl 2 rfl ?_
      refine x_ifnull 41 dX0_at_27 rfl (fun hn2 => ?_) (fun a3 hs4 => ?_)
      · replace hw := hw.1 hn2
        exact x_sub [0, 2] rfl (xb_X0_at_41 hk0 hw)
      · replace hw := hw.2 a3 hs4
        refine x_lvS 2 (lv2 := [(0, .ref a0), (1, .int l1), (2, .ref a3), (3, .int l3)]) rfl hs4 rfl ?_
        refine x_aload_n dX0_at_30 rfl 2 rfl ?_
        obtain ⟨hk5, hw⟩ := hw
        refine x_get (ci := 1) (k := 12) (v := va_rf (xh_R σ 76 a3)) dX0_at_31 wF_X0_7 (Nat.le_of_ble_eq_true rfl) (Nat.le_of_ble_eq_true rfl) hk5 rfl ?_
        refine x_astore_nQ [(2, va_rf (xh_R σ 76 a3)), (0, .ref a0), (1, .int l1), (3, .int l3)] dX0_at_34 rfl (Nat.le_of_ble_eq_true rfl) rfl ?_
        refine x_iinc [(3, .int (l3 + 1)), (2, va_rf (xh_R σ 76 a3)), (0, .ref a0), (1, .int l1)] dX0_at_35 3 rfl (congrArg _ cI_1) (Nat.le_of_ble_eq_true rfl) (by simp [xcat, xcatI, xcatR, xcatL, xcatN]) ?_
        refine x_goto 21 dX0_at_38 rfl ?_
        exact x_sub [2, 3, 1, 0] rfl (ih _ _ _ hw)
def wb_X0_at_12 (Q : Option Nat → Prop) (σ : xS) (a0 : Nat) : Prop := Q none
set_option maxRecDepth 100000 in
set_option maxHeartbeats 4000000 in
theorem xb_X0_at_12 {Q : Option Nat → Prop} {σ : xS} {a0 : Nat}  (hk0 : xh_k σ a0 = 1)  (hw : wb_X0_at_12 Q σ a0) : xX M_X0_at 12 [(0, .ref a0)] [] σ (xqR (fun r σ2 => σ2 = σ ∧ Q r )) := by
  unfold wb_X0_at_12 at hw
  refine x_null dX0_at_12 ?_
  exact x_aret (r := none) dX0_at_13 rfl ⟨none, rfl, rfl, hw⟩
def wp_X0_at (σ : xS) (a0 : Nat) (l1 : Int32) (Q : Option Nat → Prop) : Prop := (l1 < 0 → wb_X0_at_12 Q σ a0) ∧ (¬ l1 < 0 → (l1 < (xh_I σ 2 a0) → ∃ n, wb_X0_at_21 Q σ a0 n l1 (xh_R σ 0 a0) 0) ∧ (¬ l1 < (xh_I σ 2 a0) → wb_X0_at_12 Q σ a0))
set_option maxRecDepth 100000 in
set_option maxHeartbeats 4000000 in
theorem ct_X0_at {σ : xS} {a0 : Nat}  {l1 : Int32} {Q : Option Nat → Prop} (hk0 : xh_k σ a0 = 1) (hw : wp_X0_at σ a0 l1 Q) : xCt M_X0_at [.ref a0, .int l1] σ (xqR (fun r σ2 => σ2 = σ ∧ Q r )) := by
  refine xCt_ofL (lv := [(0, .ref a0), (1, .int l1)]) pn_X0 (Nat.le_of_ble_eq_true rfl) rfl ?_
  unfold wp_X0_at at hw
  refine x_iload_n dX0_at_0 rfl 1 rfl ?_
  refine x_if_lt 12 dX0_at_1 rfl (fun hc6 => ?_) (fun hc6 => ?_)
  · replace hw := hw.1 hc6
    exact x_sub [0] rfl (xb_X0_at_12 hk0 hw)
  · replace hw := hw.2 hc6
    refine x_iload_n dX0_at_4 rfl 1 rfl ?_
    refine x_aload_n dX0_at_5 rfl 0 rfl ?_
    refine x_get (ci := 0) (k := 2) (v := .int (xh_I σ 2 a0)) dX0_at_6 wF_X0_21 (Nat.le_of_ble_eq_true rfl) (Nat.le_of_ble_eq_true rfl) hk0 rfl ?_
    refine x_icmp_lt 14 dX0_at_9 rfl (fun hc7 => ?_) (fun hc7 => ?_)
    · replace hw := hw.1 hc7
      refine x_aload_n dX0_at_14 rfl 0 rfl ?_
      refine x_get (ci := 0) (k := 0) (v := va_rf (xh_R σ 0 a0)) dX0_at_15 wF_X0_18 (Nat.le_of_ble_eq_true rfl) (Nat.le_of_ble_eq_true rfl) hk0 rfl ?_
      refine x_astore_nQ [(2, va_rf (xh_R σ 0 a0)), (0, .ref a0), (1, .int l1)] dX0_at_18 rfl (Nat.le_of_ble_eq_true rfl) rfl ?_
      refine x_iconst dX0_at_19 cI_0 ?_
      refine x_istore_n (i := 3) [(3, .int 0), (2, va_rf (xh_R σ 0 a0)), (0, .ref a0), (1, .int l1)] dX0_at_20 rfl (Nat.le_of_ble_eq_true rfl) (by simp [xcat, xcatI, xcatR, xcatL, xcatN]) ?_
      obtain ⟨n, hw⟩ := hw
      exact x_sub [2, 3, 1, 0] rfl (xl_X0_at_21 hk0 n _ _ _ hw)
    · replace hw := hw.2 hc7
      exact x_sub [0] rfl (xb_X0_at_12 hk0 hw)
-- PromiseWire$Line.sumOfNs()I
def wb_X0_sumOfNs_39 (Q : Int32 → Prop) (σ : xS) (a0 : Nat) (l1 : Int32) : Prop := Q l1
set_option maxRecDepth 100000 in
set_option maxHeartbeats 4000000 in
theorem xb_X0_sumOfNs_39 {Q : Int32 → Prop} {σ : xS} {a0 : Nat}  {l1 : Int32} (hk0 : xh_k σ a0 = 1)  (hw : wb_X0_sumOfNs_39 Q σ a0 l1) : xX M_X0_sumOfNs 39 [(0, .ref a0), (1, .int l1)] [] σ (xqI (fun r σ2 => σ2 = σ ∧ Q r )) := by
  unfold wb_X0_sumOfNs_39 at hw
  refine x_iload_n dX0_sumOfNs_39 rfl 1 rfl ?_
  exact x_iret dX0_sumOfNs_40 rfl ⟨l1, rfl, rfl, hw⟩
def wb_X0_sumOfNs_9 (Q : Int32 → Prop) (σ : xS) (a0 : Nat) : Nat → Int32 → Option Nat → Int32 → Prop
  | 0, _, _, _ => False
  | n + 1, l1, l2, l3 => ((xh_I σ 2 a0) ≤ l3 → wb_X0_sumOfNs_39 Q σ a0 l1) ∧ (¬ (xh_I σ 2 a0) ≤ l3 → (l2 = none → wb_X0_sumOfNs_39 Q σ a0 l1) ∧ (∀ a3, l2 = some a3 → xh_k σ a3 = 2 ∧ (wb_X0_sumOfNs_9 Q σ a0 n (l1 + (xh_I σ 66 a3)) (xh_R σ 76 a3) (l3 + 1))))
set_option maxRecDepth 100000 in
set_option maxHeartbeats 4000000 in
theorem xl_X0_sumOfNs_9 {Q : Int32 → Prop} {σ : xS} {a0 : Nat}  (hk0 : xh_k σ a0 = 1)  : ∀ (n : Nat) (l1 : Int32) (l2 : Option Nat) (l3 : Int32), wb_X0_sumOfNs_9 Q σ a0 n l1 l2 l3 → xX M_X0_sumOfNs 9 [(0, .ref a0), (1, .int l1), (2, va_rf l2), (3, .int l3)] [] σ (xqI (fun r σ2 => σ2 = σ ∧ Q r )) := by
  intro n
  induction n with
  | zero => intro l1 l2 l3 hw; exact False.elim hw
  | succ n ih =>
    intro l1 l2 l3 hw
    unfold wb_X0_sumOfNs_9 at hw
    refine x_iload_n dX0_sumOfNs_9 rfl 3 rfl ?_
    refine x_aload_n dX0_sumOfNs_10 rfl 0 rfl ?_
    refine x_get (ci := 0) (k := 2) (v := .int (xh_I σ 2 a0)) dX0_sumOfNs_11 wF_X0_21 (Nat.le_of_ble_eq_true rfl) (Nat.le_of_ble_eq_true rfl) hk0 rfl ?_
    refine x_icmp_ge 39 dX0_sumOfNs_14 rfl (fun hc1 => ?_) (fun hc1 => ?_)
    · replace hw := hw.1 hc1
      exact x_sub [0, 1] rfl (xb_X0_sumOfNs_39 hk0 hw)
    · replace hw := hw.2 hc1
      refine x_aload_nQ dX0_sumOfNs_17 rfl 2 rfl ?_
      refine x_ifnull 39 dX0_sumOfNs_18 rfl (fun hn2 => ?_) (fun a3 hs4 => ?_)
      · replace hw := hw.1 hn2
        exact x_sub [0, 1] rfl (xb_X0_sumOfNs_39 hk0 hw)
      · replace hw := hw.2 a3 hs4
        refine x_lvS 2 (lv2 := [(0, .ref a0), (1, .int l1), (2, .ref a3), (3, .int l3)]) rfl hs4 rfl ?_
        refine x_iload_n dX0_sumOfNs_21 rfl 1 rfl ?_
        refine x_aload_n dX0_sumOfNs_22 rfl 2 rfl ?_
        obtain ⟨hk5, hw⟩ := hw
        refine x_get (ci := 1) (k := 2) (v := .int (xh_I σ 66 a3)) dX0_sumOfNs_23 wF_X0_25 (Nat.le_of_ble_eq_true rfl) (Nat.le_of_ble_eq_true rfl) hk5 rfl ?_
        refine x_iadd dX0_sumOfNs_26 ?_
        refine x_istore_n [(1, .int (l1 + (xh_I σ 66 a3))), (0, .ref a0), (2, .ref a3), (3, .int l3)] dX0_sumOfNs_27 rfl (Nat.le_of_ble_eq_true rfl) rfl ?_
        refine x_aload_n dX0_sumOfNs_28 rfl 2 rfl ?_
        refine x_get (ci := 1) (k := 12) (v := va_rf (xh_R σ 76 a3)) dX0_sumOfNs_29 wF_X0_7 (Nat.le_of_ble_eq_true rfl) (Nat.le_of_ble_eq_true rfl) hk5 rfl ?_
        refine x_astore_nQ [(2, va_rf (xh_R σ 76 a3)), (1, .int (l1 + (xh_I σ 66 a3))), (0, .ref a0), (3, .int l3)] dX0_sumOfNs_32 rfl (Nat.le_of_ble_eq_true rfl) rfl ?_
        refine x_iinc [(3, .int (l3 + 1)), (2, va_rf (xh_R σ 76 a3)), (1, .int (l1 + (xh_I σ 66 a3))), (0, .ref a0)] dX0_sumOfNs_33 3 rfl (congrArg _ cI_1) (Nat.le_of_ble_eq_true rfl) (by simp [xcat, xcatI, xcatR, xcatL, xcatN]) ?_
        refine x_goto 9 dX0_sumOfNs_36 rfl ?_
        exact x_sub [3, 2, 1, 0] rfl (ih _ _ _ hw)
def wp_X0_sumOfNs (σ : xS) (a0 : Nat) (Q : Int32 → Prop) : Prop := ∃ n, wb_X0_sumOfNs_9 Q σ a0 n 0 (xh_R σ 0 a0) 0
set_option maxRecDepth 100000 in
set_option maxHeartbeats 4000000 in
theorem ct_X0_sumOfNs {σ : xS} {a0 : Nat}  {Q : Int32 → Prop} (hk0 : xh_k σ a0 = 1) (hw : wp_X0_sumOfNs σ a0 Q) : xCt M_X0_sumOfNs [.ref a0] σ (xqI (fun r σ2 => σ2 = σ ∧ Q r )) := by
  refine xCt_ofL (lv := [(0, .ref a0)]) pn_X0 (Nat.le_of_ble_eq_true rfl) rfl ?_
  unfold wp_X0_sumOfNs at hw
  refine x_iconst dX0_sumOfNs_0 cI_0 ?_
  refine x_istore_n [(1, .int 0), (0, .ref a0)] dX0_sumOfNs_1 rfl (Nat.le_of_ble_eq_true rfl) rfl ?_
  refine x_aload_n dX0_sumOfNs_2 rfl 1 rfl ?_
  refine x_get (ci := 0) (k := 0) (v := va_rf (xh_R σ 0 a0)) dX0_sumOfNs_3 wF_X0_18 (Nat.le_of_ble_eq_true rfl) (Nat.le_of_ble_eq_true rfl) hk0 rfl ?_
  refine x_astore_nQ [(2, va_rf (xh_R σ 0 a0)), (1, .int 0), (0, .ref a0)] dX0_sumOfNs_6 rfl (Nat.le_of_ble_eq_true rfl) rfl ?_
  refine x_iconst dX0_sumOfNs_7 cI_0 ?_
  refine x_istore_n (i := 3) [(3, .int 0), (2, va_rf (xh_R σ 0 a0)), (1, .int 0), (0, .ref a0)] dX0_sumOfNs_8 rfl (Nat.le_of_ble_eq_true rfl) (by simp [xcat, xcatI, xcatR, xcatL, xcatN]) ?_
  obtain ⟨n, hw⟩ := hw
  exact x_sub [3, 2, 1, 0] rfl (xl_X0_sumOfNs_9 hk0 n _ _ _ hw)
-- PromiseWire$Message.<init>(IILPromiseWire$Thing;)V
def wp_X1_init (σ : xS) (a0 : Nat) (l1 : Int32) (l2 : Int32) (l3 : Option Nat) (Q : xS → Prop) : Prop := ∀ σ1, σ1 = xs_I σ 65 a0 l1 → (∀ σ2, σ2 = xs_I σ1 66 a0 l2 → (∀ σ3, σ3 = xs_R σ2 67 a0 l3 → (Q σ3)))
set_option maxRecDepth 100000 in
set_option maxHeartbeats 4000000 in
theorem ct_X1_init {σ : xS} {a0 : Nat}  {l1 : Int32} {l2 : Int32} {l3 : Option Nat} {Q : xS → Prop} (hk0 : xh_k σ a0 = 2) (hw : wp_X1_init σ a0 l1 l2 l3 Q) : xCt M_X1_init [.ref a0, .int l1, .int l2, va_rf l3] σ (xqV (fun σ2 => Q σ2)) := by
  refine xCt_ofL (lv := [(0, .ref a0), (1, .int l1), (2, .int l2), (3, va_rf l3)]) pn_X1 (by simp [lg_sl, xcat, xcatI, xcatR, xcatL, xcatN]) (by simp [lv_args, xcat, xcatI, xcatR, xcatL, xcatN]) ?_
  unfold wp_X1_init at hw
  refine x_aload_n dX1_init_0 rfl 0 rfl ?_
  refine x_objInit dX1_init_1 wO_X1_3 wI_obj wC_obj (Nat.le_of_ble_eq_true rfl) (Nat.le_of_ble_eq_true rfl) (Nat.le_of_ble_eq_true rfl) ?_
  refine x_aload_n dX1_init_4 rfl 0 rfl ?_
  refine x_iload_n dX1_init_5 rfl 1 rfl ?_
  refine x_putIN (ci := 1) (k := 1) (f := 65) dX1_init_6 wF_X1_9 (Nat.le_of_ble_eq_true rfl) (Nat.le_of_ble_eq_true rfl) hk0 (Or.inl rfl) rfl (Or.inl rfl) (fun σ1 hσ1 => ?_)
  replace hw := hw σ1 hσ1
  refine x_aload_n dX1_init_9 rfl 0 rfl ?_
  refine x_iload_n dX1_init_10 rfl 2 rfl ?_
  refine x_putIN (ci := 1) (k := 2) (f := 66) dX1_init_11 wF_X1_15 (Nat.le_of_ble_eq_true rfl) (Nat.le_of_ble_eq_true rfl) (xk_I hσ1 hk0) (Or.inr ⟨rfl, rfl, rfl⟩) rfl (Or.inl rfl) (fun σ2 hσ2 => ?_)
  replace hw := hw σ2 hσ2
  refine x_aload_n dX1_init_14 rfl 0 rfl ?_
  refine x_aload_nQ dX1_init_15 rfl 3 rfl ?_
  refine x_putRN (r := l3) (ci := 1) (k := 3) (f := 67) dX1_init_16 wF_X1_18 (Nat.le_of_ble_eq_true rfl) (Nat.le_of_ble_eq_true rfl) (xk_I hσ2 (xk_I hσ1 hk0)) (Or.inr ⟨rfl, rfl, rfl⟩) rfl rfl (fun σ3 hσ3 => ?_)
  replace hw := hw σ3 hσ3
  exact x_vret dX1_init_19 rfl ⟨rfl, hw⟩
-- PromiseWire$Message.answer(II)I
def wp_X1_answer (σ : xS) (a0 : Nat) (l1 : Int32) (l2 : Int32) (Q : Int32 → xS → Prop) : Prop := ∀ σ1, σ1 = xs_I σ 72 a0 l1 → (∀ σ2, σ2 = xs_I σ1 73 a0 l2 → (Q 0 σ2))
set_option maxRecDepth 100000 in
set_option maxHeartbeats 4000000 in
theorem ct_X1_answer {σ : xS} {a0 : Nat}  {l1 : Int32} {l2 : Int32} {Q : Int32 → xS → Prop} (hk0 : xh_k σ a0 = 2) (hw : wp_X1_answer σ a0 l1 l2 Q) : xCt M_X1_answer [.ref a0, .int l1, .int l2] σ (xqI (fun r σ2 => Q r σ2)) := by
  refine xCt_ofL (lv := [(0, .ref a0), (1, .int l1), (2, .int l2)]) pn_X1 (Nat.le_of_ble_eq_true rfl) rfl ?_
  unfold wp_X1_answer at hw
  refine x_aload_n dX1_answer_0 rfl 0 rfl ?_
  refine x_iload_n dX1_answer_1 rfl 1 rfl ?_
  refine x_putIN (ci := 1) (k := 8) (f := 72) dX1_answer_2 wF_X1_22 (Nat.le_of_ble_eq_true rfl) (Nat.le_of_ble_eq_true rfl) hk0 (Or.inl rfl) rfl (Or.inl rfl) (fun σ1 hσ1 => ?_)
  replace hw := hw σ1 hσ1
  refine x_aload_n dX1_answer_5 rfl 0 rfl ?_
  refine x_iload_n dX1_answer_6 rfl 2 rfl ?_
  refine x_putIN (ci := 1) (k := 9) (f := 73) dX1_answer_7 wF_X1_25 (Nat.le_of_ble_eq_true rfl) (Nat.le_of_ble_eq_true rfl) (xk_I hσ1 hk0) (Or.inl rfl) rfl (Or.inl rfl) (fun σ2 hσ2 => ?_)
  replace hw := hw σ2 hσ2
  refine x_iconst dX1_answer_10 cI_0 ?_
  exact x_iret dX1_answer_11 rfl ⟨0, rfl, hw⟩
-- PromiseWire$Message.breakByCut()V
def wb_X1_breakByCut_28 (Q : xS → Prop) (σ : xS) (a0 : Nat) : Prop := wp_X1_answer σ a0 3 1 (fun x1 σ2 => Q σ2)
set_option maxRecDepth 100000 in
set_option maxHeartbeats 4000000 in
theorem xb_X1_breakByCut_28 {Q : xS → Prop} {σ : xS} {a0 : Nat}  (hk0 : xh_k σ a0 = 2)  (hw : wb_X1_breakByCut_28 Q σ a0) : xX M_X1_breakByCut 28 [(0, .ref a0)] [] σ (xqV (fun σ2 => Q σ2)) := by
  unfold wb_X1_breakByCut_28 at hw
  refine x_aload_n dX1_breakByCut_28 rfl 0 rfl ?_
  refine x_iconst dX1_breakByCut_29 cI_3 ?_
  refine x_iconst dX1_breakByCut_30 cI_1 ?_
  refine x_callV (M2 := M_X1_answer) (As := [.int 3, .int 1]) (st := []) (ci := 1) (Nat.le_of_ble_eq_true rfl) hk0 rfl wM_X1_36 wI_X1_answer wS_X1_answer dX1_breakByCut_31 rfl ok_X1_answer ⟨(Nat.le_of_ble_eq_true rfl), (Nat.le_of_ble_eq_true rfl)⟩ (Nat.le_of_ble_eq_true rfl) (ct_X1_answer hk0 hw) (xqI.k (fun x1 σ2 hw2 => ?_))
  have hw := hw2
  refine x_pop dX1_breakByCut_34 rfl ?_
  exact x_vret dX1_breakByCut_35 rfl ⟨rfl, hw⟩
def wp_X1_breakByCut (σ : xS) (a0 : Nat) (Q : xS → Prop) : Prop := (xh_R σ 70 a0 = none → wb_X1_breakByCut_28 Q σ a0) ∧ (∀ a4, xh_R σ 70 a0 = some a4 → xh_k σ a4 = 4 ∧ (∀ σ7, σ7 = xs_I σ 198 a4 ((xh_I σ 198 a4) + (xh_I σ 66 a0)) → (∀ σ8, σ8 = xs_R σ7 70 a0 none → (wb_X1_breakByCut_28 Q σ8 a0))))
set_option maxRecDepth 100000 in
set_option maxHeartbeats 4000000 in
theorem ct_X1_breakByCut {σ : xS} {a0 : Nat}  {Q : xS → Prop} (hk0 : xh_k σ a0 = 2) (hw : wp_X1_breakByCut σ a0 Q) : xCt M_X1_breakByCut [.ref a0] σ (xqV (fun σ2 => Q σ2)) := by
  refine xCt_ofL (lv := [(0, .ref a0)]) pn_X1 (Nat.le_of_ble_eq_true rfl) rfl ?_
  unfold wp_X1_breakByCut at hw
  refine x_aload_n dX1_breakByCut_0 rfl 0 rfl ?_
  refine x_get (ci := 1) (k := 6) (v := va_rf (xh_R σ 70 a0)) dX1_breakByCut_1 wF_X1_28 (Nat.le_of_ble_eq_true rfl) (Nat.le_of_ble_eq_true rfl) hk0 rfl ?_
  refine x_ifnull 28 dX1_breakByCut_4 rfl (fun hn3 => ?_) (fun a4 hs5 => ?_)
  · replace hw := hw.1 hn3
    exact x_sub [0] rfl (xb_X1_breakByCut_28 hk0 hw)
  · replace hw := hw.2 a4 hs5
    refine x_aload_n dX1_breakByCut_7 rfl 0 rfl ?_
    refine x_get (ci := 1) (k := 6) (v := .ref a4) dX1_breakByCut_8 wF_X1_28 (Nat.le_of_ble_eq_true rfl) (Nat.le_of_ble_eq_true rfl) hk0 (congrArg va_rf hs5) ?_
    refine x_dup dX1_breakByCut_11 rfl ?_
    obtain ⟨hk6, hw⟩ := hw
    refine x_get (ci := 3) (k := 6) (v := .int (xh_I σ 198 a4)) dX1_breakByCut_12 wF_X1_31 (Nat.le_of_ble_eq_true rfl) (Nat.le_of_ble_eq_true rfl) hk6 rfl ?_
    refine x_aload_n dX1_breakByCut_15 rfl 0 rfl ?_
    refine x_get (ci := 1) (k := 2) (v := .int (xh_I σ 66 a0)) dX1_breakByCut_16 wF_X1_15 (Nat.le_of_ble_eq_true rfl) (Nat.le_of_ble_eq_true rfl) hk0 rfl ?_
    refine x_iadd dX1_breakByCut_19 ?_
    refine x_putIN (ci := 3) (k := 6) (f := 198) dX1_breakByCut_20 wF_X1_31 (Nat.le_of_ble_eq_true rfl) (Nat.le_of_ble_eq_true rfl) hk6 (Or.inl rfl) rfl (Or.inl rfl) (fun σ7 hσ7 => ?_)
    replace hw := hw σ7 hσ7
    refine x_aload_n dX1_breakByCut_23 rfl 0 rfl ?_
    refine x_null dX1_breakByCut_24 ?_
    refine x_putRN (r := none) (ci := 1) (k := 6) (f := 70) dX1_breakByCut_25 wF_X1_28 (Nat.le_of_ble_eq_true rfl) (Nat.le_of_ble_eq_true rfl) (xk_I hσ7 hk0) (Or.inl rfl) rfl rfl (fun σ8 hσ8 => ?_)
    replace hw := hw σ8 hσ8
    exact x_sub [0] rfl (xb_X1_breakByCut_28 (xk_R hσ8 (xk_I hσ7 hk0)) hw)
-- PromiseWire$Message.destination()I
def wb_X1_destination_34 (Q : Int32 → Prop) (σ : xS) (a0 : Nat) (s0 : Int32) : Prop := Q s0
set_option maxRecDepth 100000 in
set_option maxHeartbeats 4000000 in
theorem xb_X1_destination_34 {Q : Int32 → Prop} {σ : xS} {a0 : Nat}  {s0 : Int32} (hk0 : xh_k σ a0 = 2)  (hw : wb_X1_destination_34 Q σ a0 s0) : xX M_X1_destination 34 [(0, .ref a0)] [.int s0] σ (xqI (fun r σ2 => σ2 = σ ∧ Q r )) := by
  unfold wb_X1_destination_34 at hw
  exact x_iret dX1_destination_34 rfl ⟨s0, rfl, rfl, hw⟩
def wp_X1_destination (σ : xS) (a0 : Nat) (Q : Int32 → Prop) : Prop := (xh_R σ 68 a0 = none → (xh_R σ 69 a0 = none → wb_X1_destination_34 Q σ a0 (-9)) ∧ (∀ a5, xh_R σ 69 a0 = some a5 → xh_k σ a5 = 3 ∧ (wb_X1_destination_34 Q σ a0 (xh_I σ 130 a5)))) ∧ (∀ a2, xh_R σ 68 a0 = some a2 → xh_k σ a2 = 4 ∧ (Q (xh_I σ 193 a2)))
set_option maxRecDepth 100000 in
set_option maxHeartbeats 4000000 in
theorem ct_X1_destination {σ : xS} {a0 : Nat}  {Q : Int32 → Prop} (hk0 : xh_k σ a0 = 2) (hw : wp_X1_destination σ a0 Q) : xCt M_X1_destination [.ref a0] σ (xqI (fun r σ2 => σ2 = σ ∧ Q r )) := by
  refine xCt_ofL (lv := [(0, .ref a0)]) pn_X1 (Nat.le_of_ble_eq_true rfl) rfl ?_
  unfold wp_X1_destination at hw
  refine x_aload_n dX1_destination_0 rfl 0 rfl ?_
  refine x_get (ci := 1) (k := 4) (v := va_rf (xh_R σ 68 a0)) dX1_destination_1 wF_X1_40 (Nat.le_of_ble_eq_true rfl) (Nat.le_of_ble_eq_true rfl) hk0 rfl ?_
  refine x_ifnull 15 dX1_destination_4 rfl (fun hn1 => ?_) (fun a2 hs3 => ?_)
  · replace hw := hw.1 hn1
    refine x_aload_n dX1_destination_15 rfl 0 rfl ?_
    refine x_get (ci := 1) (k := 5) (v := va_rf (xh_R σ 69 a0)) dX1_destination_16 wF_X1_46 (Nat.le_of_ble_eq_true rfl) (Nat.le_of_ble_eq_true rfl) hk0 rfl ?_
    refine x_ifnonnull 27 dX1_destination_19 rfl (fun hn4 => ?_) (fun a5 hs6 => ?_)
    · replace hw := hw.1 hn4
      refine x_bipush dX1_destination_22 cB_m9 ?_
      refine x_goto 34 dX1_destination_24 rfl ?_
      exact x_sub [0] rfl (xb_X1_destination_34 hk0 hw)
    · replace hw := hw.2 a5 hs6
      refine x_aload_n dX1_destination_27 rfl 0 rfl ?_
      refine x_get (ci := 1) (k := 5) (v := .ref a5) dX1_destination_28 wF_X1_46 (Nat.le_of_ble_eq_true rfl) (Nat.le_of_ble_eq_true rfl) hk0 (congrArg va_rf hs6) ?_
      obtain ⟨hk7, hw⟩ := hw
      refine x_get (ci := 2) (k := 2) (v := .int (xh_I σ 130 a5)) dX1_destination_31 wF_X1_50 (Nat.le_of_ble_eq_true rfl) (Nat.le_of_ble_eq_true rfl) hk7 rfl ?_
      exact x_sub [0] rfl (xb_X1_destination_34 hk0 hw)
  · replace hw := hw.2 a2 hs3
    refine x_aload_n dX1_destination_7 rfl 0 rfl ?_
    refine x_get (ci := 1) (k := 4) (v := .ref a2) dX1_destination_8 wF_X1_40 (Nat.le_of_ble_eq_true rfl) (Nat.le_of_ble_eq_true rfl) hk0 (congrArg va_rf hs3) ?_
    obtain ⟨hk8, hw⟩ := hw
    refine x_get (ci := 3) (k := 1) (v := .int (xh_I σ 193 a2)) dX1_destination_11 wF_X1_43 (Nat.le_of_ble_eq_true rfl) (Nat.le_of_ble_eq_true rfl) hk8 rfl ?_
    exact x_iret dX1_destination_14 rfl ⟨(xh_I σ 193 a2), rfl, rfl, hw⟩
-- PromiseWire$Message.whatLetter()I
def wb_X1_whatLetter_21 (Q : Int32 → Prop) (σ : xS) (a0 : Nat) (s0 : Int32) : Prop := Q s0
set_option maxRecDepth 100000 in
set_option maxHeartbeats 4000000 in
theorem xb_X1_whatLetter_21 {Q : Int32 → Prop} {σ : xS} {a0 : Nat}  {s0 : Int32} (hk0 : xh_k σ a0 = 2)  (hw : wb_X1_whatLetter_21 Q σ a0 s0) : xX M_X1_whatLetter 21 [(0, .ref a0)] [.int s0] σ (xqI (fun r σ2 => σ2 = σ ∧ Q r )) := by
  unfold wb_X1_whatLetter_21 at hw
  exact x_iret dX1_whatLetter_21 rfl ⟨s0, rfl, rfl, hw⟩
def wp_X1_whatLetter (σ : xS) (a0 : Nat) (Q : Int32 → Prop) : Prop := ((xh_I σ 71 a0) = 0 → (xh_R σ 64 a0 = none → wb_X1_whatLetter_21 Q σ a0 2) ∧ (∀ a3, xh_R σ 64 a0 = some a3 → wb_X1_whatLetter_21 Q σ a0 0)) ∧ (¬ (xh_I σ 71 a0) = 0 → Q 1)
set_option maxRecDepth 100000 in
set_option maxHeartbeats 4000000 in
theorem ct_X1_whatLetter {σ : xS} {a0 : Nat}  {Q : Int32 → Prop} (hk0 : xh_k σ a0 = 2) (hw : wp_X1_whatLetter σ a0 Q) : xCt M_X1_whatLetter [.ref a0] σ (xqI (fun r σ2 => σ2 = σ ∧ Q r )) := by
  refine xCt_ofL (lv := [(0, .ref a0)]) pn_X1 (Nat.le_of_ble_eq_true rfl) rfl ?_
  unfold wp_X1_whatLetter at hw
  refine x_aload_n dX1_whatLetter_0 rfl 0 rfl ?_
  refine x_get (ci := 1) (k := 7) (v := .int (xh_I σ 71 a0)) dX1_whatLetter_1 wF_X1_55 (Nat.le_of_ble_eq_true rfl) (Nat.le_of_ble_eq_true rfl) hk0 rfl ?_
  refine x_if_eq 9 dX1_whatLetter_4 rfl (fun hc1 => ?_) (fun hc1 => ?_)
  · replace hw := hw.1 hc1
    refine x_aload_n dX1_whatLetter_9 rfl 0 rfl ?_
    refine x_get (ci := 1) (k := 0) (v := va_rf (xh_R σ 64 a0)) dX1_whatLetter_10 wF_X1_59 (Nat.le_of_ble_eq_true rfl) (Nat.le_of_ble_eq_true rfl) hk0 rfl ?_
    refine x_ifnonnull 20 dX1_whatLetter_13 rfl (fun hn2 => ?_) (fun a3 hs4 => ?_)
    · replace hw := hw.1 hn2
      refine x_iconst dX1_whatLetter_16 cI_2 ?_
      refine x_goto 21 dX1_whatLetter_17 rfl ?_
      exact x_sub [0] rfl (xb_X1_whatLetter_21 hk0 hw)
    · replace hw := hw.2 a3 hs4
      refine x_iconst dX1_whatLetter_20 cI_0 ?_
      exact x_sub [0] rfl (xb_X1_whatLetter_21 hk0 hw)
  · replace hw := hw.2 hc1
    refine x_iconst dX1_whatLetter_7 cI_1 ?_
    exact x_iret dX1_whatLetter_8 rfl ⟨1, rfl, rfl, hw⟩
-- PromiseWire$Promise.<init>(IIILPromiseWire$Message;)V
def wp_X2_init (σ : xS) (a0 : Nat) (l1 : Int32) (l2 : Int32) (l3 : Int32) (l4 : Nat) (Q : xS → Prop) : Prop := xh_n σ < xh_m σ ∧ ∀ σ3, σ3 = xs_new σ 0 → (wp_X0_init σ3 (xh_n σ) (∀ σ5, σ5 = xs_R σ3 132 a0 (some (xh_n σ)) → (∀ σ6, σ6 = xs_I σ5 128 a0 l1 → (∀ σ7, σ7 = xs_I σ6 129 a0 l2 → (∀ σ8, σ8 = xs_I σ7 130 a0 l3 → (∀ σ9, σ9 = xs_R σ8 131 a0 (some l4) → (Q σ9)))))))
set_option maxRecDepth 100000 in
set_option maxHeartbeats 4000000 in
theorem ct_X2_init {σ : xS} {a0 : Nat}  {l1 : Int32} {l2 : Int32} {l3 : Int32} {l4 : Nat} {Q : xS → Prop} (hk0 : xh_k σ a0 = 3) (hw : wp_X2_init σ a0 l1 l2 l3 l4 Q) : xCt M_X2_init [.ref a0, .int l1, .int l2, .int l3, .ref l4] σ (xqV (fun σ2 => Q σ2)) := by
  refine xCt_ofL (lv := [(0, .ref a0), (1, .int l1), (2, .int l2), (3, .int l3), (4, .ref l4)]) pn_X2 (Nat.le_of_ble_eq_true rfl) rfl ?_
  unfold wp_X2_init at hw
  refine x_aload_n dX2_init_0 rfl 0 rfl ?_
  refine x_objInit dX2_init_1 wO_X2_1 wI_obj wC_obj (Nat.le_of_ble_eq_true rfl) (Nat.le_of_ble_eq_true rfl) (Nat.le_of_ble_eq_true rfl) ?_
  refine x_aload_n dX2_init_4 rfl 0 rfl ?_
  refine x_fresh (fun hf1 => ?_)
  obtain ⟨hm2, hw⟩ := hw
  refine x_newN (ci := 0) dX2_init_5 (Nat.le_of_ble_eq_true rfl) wK_X2_7 wT_X0 wN_X0 hm2 (fun σ3 hσ3 => ?_)
  replace hw := hw σ3 hσ3
  refine x_dup dX2_init_8 rfl ?_
  refine x_callN (M2 := M_X0_init) (As := []) (st := [.ref (xh_n σ), .ref a0]) rfl rfl (fun U h => h.1.2.1) wI_X0_init dX2_init_9 rfl ok_X0_init ⟨(Nat.le_of_ble_eq_true rfl), (Nat.le_of_ble_eq_true rfl)⟩ (Nat.le_of_ble_eq_true rfl) (ct_X0_init (xk_self hσ3) hw) (xqV.k (fun τ4 hw2 => ?_))
  obtain ⟨he, hw⟩ := hw2
  subst he
  refine x_putRN (r := (some (xh_n σ))) (ci := 2) (k := 4) (f := 132) dX2_init_12 wF_X2_10 (Nat.le_of_ble_eq_true rfl) (Nat.le_of_ble_eq_true rfl) (xk_new hf1 hσ3 hk0) (Or.inr ⟨rfl, rfl, rfl⟩) rfl rfl (fun σ5 hσ5 => ?_)
  replace hw := hw σ5 hσ5
  refine x_aload_n dX2_init_15 rfl 0 rfl ?_
  refine x_iload_n dX2_init_16 rfl 1 rfl ?_
  refine x_putIN (ci := 2) (k := 0) (f := 128) dX2_init_17 wF_X2_16 (Nat.le_of_ble_eq_true rfl) (Nat.le_of_ble_eq_true rfl) (xk_R hσ5 (xk_new hf1 hσ3 hk0)) (Or.inr ⟨rfl, rfl, rfl⟩) rfl (Or.inl rfl) (fun σ6 hσ6 => ?_)
  replace hw := hw σ6 hσ6
  refine x_aload_n dX2_init_20 rfl 0 rfl ?_
  refine x_iload_n dX2_init_21 rfl 2 rfl ?_
  refine x_putIN (ci := 2) (k := 1) (f := 129) dX2_init_22 wF_X2_20 (Nat.le_of_ble_eq_true rfl) (Nat.le_of_ble_eq_true rfl) (xk_I hσ6 (xk_R hσ5 (xk_new hf1 hσ3 hk0))) (Or.inr ⟨rfl, rfl, rfl⟩) rfl (Or.inl rfl) (fun σ7 hσ7 => ?_)
  replace hw := hw σ7 hσ7
  refine x_aload_n dX2_init_25 rfl 0 rfl ?_
  refine x_iload_n dX2_init_26 rfl 3 rfl ?_
  refine x_putIN (ci := 2) (k := 2) (f := 130) dX2_init_27 wF_X2_23 (Nat.le_of_ble_eq_true rfl) (Nat.le_of_ble_eq_true rfl) (xk_I hσ7 (xk_I hσ6 (xk_R hσ5 (xk_new hf1 hσ3 hk0)))) (Or.inr ⟨rfl, rfl, rfl⟩) rfl (Or.inl rfl) (fun σ8 hσ8 => ?_)
  replace hw := hw σ8 hσ8
  refine x_aload_n dX2_init_30 rfl 0 rfl ?_
  refine x_aload dX2_init_31 4 rfl ?_
  refine x_putRN (r := (some l4)) (ci := 2) (k := 3) (f := 131) dX2_init_33 wF_X2_26 (Nat.le_of_ble_eq_true rfl) (Nat.le_of_ble_eq_true rfl) (xk_I hσ8 (xk_I hσ7 (xk_I hσ6 (xk_R hσ5 (xk_new hf1 hσ3 hk0))))) (Or.inr ⟨rfl, rfl, rfl⟩) rfl rfl (fun σ9 hσ9 => ?_)
  replace hw := hw σ9 hσ9
  exact x_vret dX2_init_36 rfl ⟨rfl, hw⟩
-- PromiseWire$Promise.isKnownIn(I)Z
def wb_X2_isKnownIn_21 (Q : Int32 → Prop) (σ : xS) (a0 : Nat) (s0 : Int32) : Prop := (s0 = 0 ∨ s0 = 1) ∧ Q s0
set_option maxRecDepth 100000 in
set_option maxHeartbeats 4000000 in
theorem xb_X2_isKnownIn_21 {Q : Int32 → Prop} {σ : xS} {a0 : Nat}  {s0 : Int32} (hk0 : xh_k σ a0 = 3)  (hw : wb_X2_isKnownIn_21 Q σ a0 s0) : xX M_X2_isKnownIn 21 [(0, .ref a0)] [.int s0] σ (xqI (fun r σ2 => σ2 = σ ∧ Q r )) := by
  unfold wb_X2_isKnownIn_21 at hw
  obtain ⟨hz1, hw⟩ := hw
  exact x_zret dX2_isKnownIn_21 rfl hz1 ⟨s0, rfl, rfl, hw⟩
def wb_X2_isKnownIn_16 (Q : Int32 → Prop) (σ : xS) (a0 : Nat) : Prop := wb_X2_isKnownIn_21 Q σ a0 1
set_option maxRecDepth 100000 in
set_option maxHeartbeats 4000000 in
theorem xb_X2_isKnownIn_16 {Q : Int32 → Prop} {σ : xS} {a0 : Nat}  (hk0 : xh_k σ a0 = 3)  (hw : wb_X2_isKnownIn_16 Q σ a0) : xX M_X2_isKnownIn 16 [(0, .ref a0)] [] σ (xqI (fun r σ2 => σ2 = σ ∧ Q r )) := by
  unfold wb_X2_isKnownIn_16 at hw
  refine x_iconst dX2_isKnownIn_16 cI_1 ?_
  refine x_goto 21 dX2_isKnownIn_17 rfl ?_
  exact x_sub [0] rfl (xb_X2_isKnownIn_21 hk0 hw)
def wp_X2_isKnownIn (σ : xS) (a0 : Nat) (l1 : Int32) (Q : Int32 → Prop) : Prop := (l1 = (xh_I σ 129 a0) → wb_X2_isKnownIn_16 Q σ a0) ∧ (¬ l1 = (xh_I σ 129 a0) → (l1 = (xh_I σ 130 a0) → wb_X2_isKnownIn_16 Q σ a0) ∧ (¬ l1 = (xh_I σ 130 a0) → wb_X2_isKnownIn_21 Q σ a0 0))
set_option maxRecDepth 100000 in
set_option maxHeartbeats 4000000 in
theorem ct_X2_isKnownIn {σ : xS} {a0 : Nat}  {l1 : Int32} {Q : Int32 → Prop} (hk0 : xh_k σ a0 = 3) (hw : wp_X2_isKnownIn σ a0 l1 Q) : xCt M_X2_isKnownIn [.ref a0, .int l1] σ (xqI (fun r σ2 => σ2 = σ ∧ Q r )) := by
  refine xCt_ofL (lv := [(0, .ref a0), (1, .int l1)]) pn_X2 (Nat.le_of_ble_eq_true rfl) rfl ?_
  unfold wp_X2_isKnownIn at hw
  refine x_iload_n dX2_isKnownIn_0 rfl 1 rfl ?_
  refine x_aload_n dX2_isKnownIn_1 rfl 0 rfl ?_
  refine x_get (ci := 2) (k := 1) (v := .int (xh_I σ 129 a0)) dX2_isKnownIn_2 wF_X2_20 (Nat.le_of_ble_eq_true rfl) (Nat.le_of_ble_eq_true rfl) hk0 rfl ?_
  refine x_icmp_eq 16 dX2_isKnownIn_5 rfl (fun hc2 => ?_) (fun hc2 => ?_)
  · replace hw := hw.1 hc2
    exact x_sub [0] rfl (xb_X2_isKnownIn_16 hk0 hw)
  · replace hw := hw.2 hc2
    refine x_iload_n dX2_isKnownIn_8 rfl 1 rfl ?_
    refine x_aload_n dX2_isKnownIn_9 rfl 0 rfl ?_
    refine x_get (ci := 2) (k := 2) (v := .int (xh_I σ 130 a0)) dX2_isKnownIn_10 wF_X2_23 (Nat.le_of_ble_eq_true rfl) (Nat.le_of_ble_eq_true rfl) hk0 rfl ?_
    refine x_icmp_ne 20 dX2_isKnownIn_13 rfl (fun hc3 => ?_) (fun hc3 => ?_)
    · replace hw := hw.2 hc3
      refine x_iconst dX2_isKnownIn_20 cI_0 ?_
      exact x_sub [0] rfl (xb_X2_isKnownIn_21 hk0 hw)
    · replace hw := hw.1 hc3
      exact x_sub [0] rfl (xb_X2_isKnownIn_16 hk0 hw)
-- PromiseWire$Promise.howIn(I)I
def wb_X2_howIn_19 (Q : Int32 → Prop) (σ : xS) (a0 : Nat) (s0 : Int32) : Prop := Q s0
set_option maxRecDepth 100000 in
set_option maxHeartbeats 4000000 in
theorem xb_X2_howIn_19 {Q : Int32 → Prop} {σ : xS} {a0 : Nat}  {s0 : Int32} (hk0 : xh_k σ a0 = 3)  (hw : wb_X2_howIn_19 Q σ a0 s0) : xX M_X2_howIn 19 [(0, .ref a0)] [.int s0] σ (xqI (fun r σ2 => σ2 = σ ∧ Q r )) := by
  unfold wb_X2_howIn_19 at hw
  exact x_iret dX2_howIn_19 rfl ⟨s0, rfl, rfl, hw⟩
def wp_X2_howIn (σ : xS) (a0 : Nat) (l1 : Int32) (Q : Int32 → Prop) : Prop := (l1 = (xh_I σ 130 a0) → wb_X2_howIn_19 Q σ a0 (xh_I σ 133 a0)) ∧ (¬ l1 = (xh_I σ 130 a0) → wb_X2_howIn_19 Q σ a0 (xh_I σ 135 a0))
set_option maxRecDepth 100000 in
set_option maxHeartbeats 4000000 in
theorem ct_X2_howIn {σ : xS} {a0 : Nat}  {l1 : Int32} {Q : Int32 → Prop} (hk0 : xh_k σ a0 = 3) (hw : wp_X2_howIn σ a0 l1 Q) : xCt M_X2_howIn [.ref a0, .int l1] σ (xqI (fun r σ2 => σ2 = σ ∧ Q r )) := by
  refine xCt_ofL (lv := [(0, .ref a0), (1, .int l1)]) pn_X2 (Nat.le_of_ble_eq_true rfl) rfl ?_
  unfold wp_X2_howIn at hw
  refine x_iload_n dX2_howIn_0 rfl 1 rfl ?_
  refine x_aload_n dX2_howIn_1 rfl 0 rfl ?_
  refine x_get (ci := 2) (k := 2) (v := .int (xh_I σ 130 a0)) dX2_howIn_2 wF_X2_23 (Nat.le_of_ble_eq_true rfl) (Nat.le_of_ble_eq_true rfl) hk0 rfl ?_
  refine x_icmp_ne 15 dX2_howIn_5 rfl (fun hc1 => ?_) (fun hc1 => ?_)
  · replace hw := hw.2 hc1
    refine x_aload_n dX2_howIn_15 rfl 0 rfl ?_
    refine x_get (ci := 2) (k := 7) (v := .int (xh_I σ 135 a0)) dX2_howIn_16 wF_X2_33 (Nat.le_of_ble_eq_true rfl) (Nat.le_of_ble_eq_true rfl) hk0 rfl ?_
    exact x_sub [0] rfl (xb_X2_howIn_19 hk0 hw)
  · replace hw := hw.1 hc1
    refine x_aload_n dX2_howIn_8 rfl 0 rfl ?_
    refine x_get (ci := 2) (k := 5) (v := .int (xh_I σ 133 a0)) dX2_howIn_9 wF_X2_30 (Nat.le_of_ble_eq_true rfl) (Nat.le_of_ble_eq_true rfl) hk0 rfl ?_
    refine x_goto 19 dX2_howIn_12 rfl ?_
    exact x_sub [0] rfl (xb_X2_howIn_19 hk0 hw)
-- PromiseWire$Promise.valueIn(I)I
def wb_X2_valueIn_19 (Q : Int32 → Prop) (σ : xS) (a0 : Nat) (s0 : Int32) : Prop := Q s0
set_option maxRecDepth 100000 in
set_option maxHeartbeats 4000000 in
theorem xb_X2_valueIn_19 {Q : Int32 → Prop} {σ : xS} {a0 : Nat}  {s0 : Int32} (hk0 : xh_k σ a0 = 3)  (hw : wb_X2_valueIn_19 Q σ a0 s0) : xX M_X2_valueIn 19 [(0, .ref a0)] [.int s0] σ (xqI (fun r σ2 => σ2 = σ ∧ Q r )) := by
  unfold wb_X2_valueIn_19 at hw
  exact x_iret dX2_valueIn_19 rfl ⟨s0, rfl, rfl, hw⟩
def wp_X2_valueIn (σ : xS) (a0 : Nat) (l1 : Int32) (Q : Int32 → Prop) : Prop := (l1 = (xh_I σ 130 a0) → wb_X2_valueIn_19 Q σ a0 (xh_I σ 134 a0)) ∧ (¬ l1 = (xh_I σ 130 a0) → wb_X2_valueIn_19 Q σ a0 (xh_I σ 136 a0))
set_option maxRecDepth 100000 in
set_option maxHeartbeats 4000000 in
theorem ct_X2_valueIn {σ : xS} {a0 : Nat}  {l1 : Int32} {Q : Int32 → Prop} (hk0 : xh_k σ a0 = 3) (hw : wp_X2_valueIn σ a0 l1 Q) : xCt M_X2_valueIn [.ref a0, .int l1] σ (xqI (fun r σ2 => σ2 = σ ∧ Q r )) := by
  refine xCt_ofL (lv := [(0, .ref a0), (1, .int l1)]) pn_X2 (Nat.le_of_ble_eq_true rfl) rfl ?_
  unfold wp_X2_valueIn at hw
  refine x_iload_n dX2_valueIn_0 rfl 1 rfl ?_
  refine x_aload_n dX2_valueIn_1 rfl 0 rfl ?_
  refine x_get (ci := 2) (k := 2) (v := .int (xh_I σ 130 a0)) dX2_valueIn_2 wF_X2_23 (Nat.le_of_ble_eq_true rfl) (Nat.le_of_ble_eq_true rfl) hk0 rfl ?_
  refine x_icmp_ne 15 dX2_valueIn_5 rfl (fun hc1 => ?_) (fun hc1 => ?_)
  · replace hw := hw.2 hc1
    refine x_aload_n dX2_valueIn_15 rfl 0 rfl ?_
    refine x_get (ci := 2) (k := 8) (v := .int (xh_I σ 136 a0)) dX2_valueIn_16 wF_X2_39 (Nat.le_of_ble_eq_true rfl) (Nat.le_of_ble_eq_true rfl) hk0 rfl ?_
    exact x_sub [0] rfl (xb_X2_valueIn_19 hk0 hw)
  · replace hw := hw.1 hc1
    refine x_aload_n dX2_valueIn_8 rfl 0 rfl ?_
    refine x_get (ci := 2) (k := 6) (v := .int (xh_I σ 134 a0)) dX2_valueIn_9 wF_X2_36 (Nat.le_of_ble_eq_true rfl) (Nat.le_of_ble_eq_true rfl) hk0 rfl ?_
    refine x_goto 19 dX2_valueIn_12 rfl ?_
    exact x_sub [0] rfl (xb_X2_valueIn_19 hk0 hw)
-- PromiseWire$Thing.<init>(IIIILPromiseWire$Thing;I)V
def wp_X3_init (σ : xS) (a0 : Nat) (l1 : Int32) (l2 : Int32) (l3 : Int32) (l4 : Int32) (l5 : Option Nat) (l6 : Int32) (Q : xS → Prop) : Prop := xh_n σ < xh_m σ ∧ ∀ σ3, σ3 = xs_new σ 0 → (wp_X0_init σ3 (xh_n σ) (∀ σ5, σ5 = xs_R σ3 197 a0 (some (xh_n σ)) → (∀ σ6, σ6 = xs_I σ5 192 a0 l1 → (∀ σ7, σ7 = xs_I σ6 193 a0 l2 → (∀ σ8, σ8 = xs_I σ7 194 a0 l3 → (∀ σ9, σ9 = xs_I σ8 198 a0 l4 → (∀ σ10, σ10 = xs_R σ9 195 a0 l5 → (∀ σ11, σ11 = xs_I σ10 196 a0 l6 → (Q σ11)))))))))
set_option maxRecDepth 100000 in
set_option maxHeartbeats 4000000 in
theorem ct_X3_init {σ : xS} {a0 : Nat}  {l1 : Int32} {l2 : Int32} {l3 : Int32} {l4 : Int32} {l5 : Option Nat} {l6 : Int32} {Q : xS → Prop} (hk0 : xh_k σ a0 = 4) (hw : wp_X3_init σ a0 l1 l2 l3 l4 l5 l6 Q) : xCt M_X3_init [.ref a0, .int l1, .int l2, .int l3, .int l4, va_rf l5, .int l6] σ (xqV (fun σ2 => Q σ2)) := by
  refine xCt_ofL (lv := [(0, .ref a0), (1, .int l1), (2, .int l2), (3, .int l3), (4, .int l4), (5, va_rf l5), (6, .int l6)]) pn_X3 (by simp [lg_sl, xcat, xcatI, xcatR, xcatL, xcatN]) (by simp [lv_args, xcat, xcatI, xcatR, xcatL, xcatN]) ?_
  unfold wp_X3_init at hw
  refine x_aload_n dX3_init_0 rfl 0 rfl ?_
  refine x_objInit dX3_init_1 wO_X3_1 wI_obj wC_obj (Nat.le_of_ble_eq_true rfl) (Nat.le_of_ble_eq_true rfl) (Nat.le_of_ble_eq_true rfl) ?_
  refine x_aload_n dX3_init_4 rfl 0 rfl ?_
  refine x_fresh (fun hf1 => ?_)
  obtain ⟨hm2, hw⟩ := hw
  refine x_newN (ci := 0) dX3_init_5 (Nat.le_of_ble_eq_true rfl) wK_X3_7 wT_X0 wN_X0 hm2 (fun σ3 hσ3 => ?_)
  replace hw := hw σ3 hσ3
  refine x_dup dX3_init_8 rfl ?_
  refine x_callN (M2 := M_X0_init) (As := []) (st := [.ref (xh_n σ), .ref a0]) rfl rfl (fun U h => h.1.2.2.1) wI_X0_init dX3_init_9 rfl ok_X0_init ⟨(Nat.le_of_ble_eq_true rfl), (Nat.le_of_ble_eq_true rfl)⟩ (Nat.le_of_ble_eq_true rfl) (ct_X0_init (xk_self hσ3) hw) (xqV.k (fun τ4 hw2 => ?_))
  obtain ⟨he, hw⟩ := hw2
  subst he
  refine x_putRN (r := (some (xh_n σ))) (ci := 3) (k := 5) (f := 197) dX3_init_12 wF_X3_10 (Nat.le_of_ble_eq_true rfl) (Nat.le_of_ble_eq_true rfl) (xk_new hf1 hσ3 hk0) (Or.inr ⟨rfl, rfl, rfl⟩) rfl rfl (fun σ5 hσ5 => ?_)
  replace hw := hw σ5 hσ5
  refine x_aload_n dX3_init_15 rfl 0 rfl ?_
  refine x_iload_n dX3_init_16 rfl 1 rfl ?_
  refine x_putIN (ci := 3) (k := 0) (f := 192) dX3_init_17 wF_X3_16 (Nat.le_of_ble_eq_true rfl) (Nat.le_of_ble_eq_true rfl) (xk_R hσ5 (xk_new hf1 hσ3 hk0)) (Or.inr ⟨rfl, rfl, rfl⟩) rfl (Or.inl rfl) (fun σ6 hσ6 => ?_)
  replace hw := hw σ6 hσ6
  refine x_aload_n dX3_init_20 rfl 0 rfl ?_
  refine x_iload_n dX3_init_21 rfl 2 rfl ?_
  refine x_putIN (ci := 3) (k := 1) (f := 193) dX3_init_22 wF_X3_20 (Nat.le_of_ble_eq_true rfl) (Nat.le_of_ble_eq_true rfl) (xk_I hσ6 (xk_R hσ5 (xk_new hf1 hσ3 hk0))) (Or.inr ⟨rfl, rfl, rfl⟩) rfl (Or.inl rfl) (fun σ7 hσ7 => ?_)
  replace hw := hw σ7 hσ7
  refine x_aload_n dX3_init_25 rfl 0 rfl ?_
  refine x_iload_n dX3_init_26 rfl 3 rfl ?_
  refine x_putIN (ci := 3) (k := 2) (f := 194) dX3_init_27 wF_X3_23 (Nat.le_of_ble_eq_true rfl) (Nat.le_of_ble_eq_true rfl) (xk_I hσ7 (xk_I hσ6 (xk_R hσ5 (xk_new hf1 hσ3 hk0)))) (Or.inr ⟨rfl, rfl, rfl⟩) rfl (Or.inl rfl) (fun σ8 hσ8 => ?_)
  replace hw := hw σ8 hσ8
  refine x_aload_n dX3_init_30 rfl 0 rfl ?_
  refine x_iload dX3_init_31 4 rfl ?_
  refine x_putIN (ci := 3) (k := 6) (f := 198) dX3_init_33 wF_X3_26 (Nat.le_of_ble_eq_true rfl) (Nat.le_of_ble_eq_true rfl) (xk_I hσ8 (xk_I hσ7 (xk_I hσ6 (xk_R hσ5 (xk_new hf1 hσ3 hk0))))) (Or.inl rfl) rfl (Or.inl rfl) (fun σ9 hσ9 => ?_)
  replace hw := hw σ9 hσ9
  refine x_aload_n dX3_init_36 rfl 0 rfl ?_
  refine x_aloadQ dX3_init_37 5 rfl ?_
  refine x_putRN (r := l5) (ci := 3) (k := 3) (f := 195) dX3_init_39 wF_X3_29 (Nat.le_of_ble_eq_true rfl) (Nat.le_of_ble_eq_true rfl) (xk_I hσ9 (xk_I hσ8 (xk_I hσ7 (xk_I hσ6 (xk_R hσ5 (xk_new hf1 hσ3 hk0)))))) (Or.inr ⟨rfl, rfl, rfl⟩) rfl rfl (fun σ10 hσ10 => ?_)
  replace hw := hw σ10 hσ10
  refine x_aload_n dX3_init_42 rfl 0 rfl ?_
  refine x_iload dX3_init_43 6 rfl ?_
  refine x_putIN (ci := 3) (k := 4) (f := 196) dX3_init_45 wF_X3_33 (Nat.le_of_ble_eq_true rfl) (Nat.le_of_ble_eq_true rfl) (xk_R hσ10 (xk_I hσ9 (xk_I hσ8 (xk_I hσ7 (xk_I hσ6 (xk_R hσ5 (xk_new hf1 hσ3 hk0))))))) (Or.inr ⟨rfl, rfl, rfl⟩) rfl (Or.inl rfl) (fun σ11 hσ11 => ?_)
  replace hw := hw σ11 hσ11
  exact x_vret dX3_init_48 rfl ⟨rfl, hw⟩
-- PromiseWire$When.<init>(LPromiseWire$Promise;ILPromiseWire$Thing;)V
def wp_X4_init (σ : xS) (a0 : Nat) (l1 : Nat) (l2 : Int32) (l3 : Nat) (Q : xS → Prop) : Prop := ∀ σ1, σ1 = xs_R σ 256 a0 (some l1) → (∀ σ2, σ2 = xs_I σ1 257 a0 l2 → (∀ σ3, σ3 = xs_R σ2 258 a0 (some l3) → (Q σ3)))
set_option maxRecDepth 100000 in
set_option maxHeartbeats 4000000 in
theorem ct_X4_init {σ : xS} {a0 : Nat}  {l1 : Nat} {l2 : Int32} {l3 : Nat} {Q : xS → Prop} (hk0 : xh_k σ a0 = 5) (hw : wp_X4_init σ a0 l1 l2 l3 Q) : xCt M_X4_init [.ref a0, .ref l1, .int l2, .ref l3] σ (xqV (fun σ2 => Q σ2)) := by
  refine xCt_ofL (lv := [(0, .ref a0), (1, .ref l1), (2, .int l2), (3, .ref l3)]) pn_X4 (Nat.le_of_ble_eq_true rfl) rfl ?_
  unfold wp_X4_init at hw
  refine x_aload_n dX4_init_0 rfl 0 rfl ?_
  refine x_objInit dX4_init_1 wO_X4_1 wI_obj wC_obj (Nat.le_of_ble_eq_true rfl) (Nat.le_of_ble_eq_true rfl) (Nat.le_of_ble_eq_true rfl) ?_
  refine x_aload_n dX4_init_4 rfl 0 rfl ?_
  refine x_aload_n dX4_init_5 rfl 1 rfl ?_
  refine x_putRN (r := (some l1)) (ci := 4) (k := 0) (f := 256) dX4_init_6 wF_X4_7 (Nat.le_of_ble_eq_true rfl) (Nat.le_of_ble_eq_true rfl) hk0 (Or.inr ⟨rfl, rfl, rfl⟩) rfl rfl (fun σ1 hσ1 => ?_)
  replace hw := hw σ1 hσ1
  refine x_aload_n dX4_init_9 rfl 0 rfl ?_
  refine x_iload_n dX4_init_10 rfl 2 rfl ?_
  refine x_putIN (ci := 4) (k := 1) (f := 257) dX4_init_11 wF_X4_13 (Nat.le_of_ble_eq_true rfl) (Nat.le_of_ble_eq_true rfl) (xk_R hσ1 hk0) (Or.inr ⟨rfl, rfl, rfl⟩) rfl (Or.inl rfl) (fun σ2 hσ2 => ?_)
  replace hw := hw σ2 hσ2
  refine x_aload_n dX4_init_14 rfl 0 rfl ?_
  refine x_aload_n dX4_init_15 rfl 3 rfl ?_
  refine x_putRN (r := (some l3)) (ci := 4) (k := 2) (f := 258) dX4_init_16 wF_X4_17 (Nat.le_of_ble_eq_true rfl) (Nat.le_of_ble_eq_true rfl) (xk_I hσ2 (xk_R hσ1 hk0)) (Or.inr ⟨rfl, rfl, rfl⟩) rfl rfl (fun σ3 hσ3 => ?_)
  replace hw := hw σ3 hσ3
  exact x_vret dX4_init_19 rfl ⟨rfl, hw⟩
-- PromiseWire$Wire.<init>(II)V
def wp_X5_init (σ : xS) (a0 : Nat) (l1 : Int32) (l2 : Int32) (Q : xS → Prop) : Prop := xh_n σ < xh_m σ ∧ ∀ σ3, σ3 = xs_new σ 0 → (wp_X0_init σ3 (xh_n σ) (∀ σ5, σ5 = xs_R σ3 322 a0 (some (xh_n σ)) → (∀ σ6, σ6 = xs_I σ5 320 a0 l1 → (∀ σ7, σ7 = xs_I σ6 321 a0 l2 → (Q σ7)))))
set_option maxRecDepth 100000 in
set_option maxHeartbeats 4000000 in
theorem ct_X5_init {σ : xS} {a0 : Nat}  {l1 : Int32} {l2 : Int32} {Q : xS → Prop} (hk0 : xh_k σ a0 = 6) (hw : wp_X5_init σ a0 l1 l2 Q) : xCt M_X5_init [.ref a0, .int l1, .int l2] σ (xqV (fun σ2 => Q σ2)) := by
  refine xCt_ofL (lv := [(0, .ref a0), (1, .int l1), (2, .int l2)]) pn_X5 (Nat.le_of_ble_eq_true rfl) rfl ?_
  unfold wp_X5_init at hw
  refine x_aload_n dX5_init_0 rfl 0 rfl ?_
  refine x_objInit dX5_init_1 wO_X5_1 wI_obj wC_obj (Nat.le_of_ble_eq_true rfl) (Nat.le_of_ble_eq_true rfl) (Nat.le_of_ble_eq_true rfl) ?_
  refine x_aload_n dX5_init_4 rfl 0 rfl ?_
  refine x_fresh (fun hf1 => ?_)
  obtain ⟨hm2, hw⟩ := hw
  refine x_newN (ci := 0) dX5_init_5 (Nat.le_of_ble_eq_true rfl) wK_X5_7 wT_X0 wN_X0 hm2 (fun σ3 hσ3 => ?_)
  replace hw := hw σ3 hσ3
  refine x_dup dX5_init_8 rfl ?_
  refine x_callN (M2 := M_X0_init) (As := []) (st := [.ref (xh_n σ), .ref a0]) rfl rfl (fun U h => h.1.2.2.2) wI_X0_init dX5_init_9 rfl ok_X0_init ⟨(Nat.le_of_ble_eq_true rfl), (Nat.le_of_ble_eq_true rfl)⟩ (Nat.le_of_ble_eq_true rfl) (ct_X0_init (xk_self hσ3) hw) (xqV.k (fun τ4 hw2 => ?_))
  obtain ⟨he, hw⟩ := hw2
  subst he
  refine x_putRN (r := (some (xh_n σ))) (ci := 5) (k := 2) (f := 322) dX5_init_12 wF_X5_10 (Nat.le_of_ble_eq_true rfl) (Nat.le_of_ble_eq_true rfl) (xk_new hf1 hσ3 hk0) (Or.inr ⟨rfl, rfl, rfl⟩) rfl rfl (fun σ5 hσ5 => ?_)
  replace hw := hw σ5 hσ5
  refine x_aload_n dX5_init_15 rfl 0 rfl ?_
  refine x_iload_n dX5_init_16 rfl 1 rfl ?_
  refine x_putIN (ci := 5) (k := 0) (f := 320) dX5_init_17 wF_X5_16 (Nat.le_of_ble_eq_true rfl) (Nat.le_of_ble_eq_true rfl) (xk_R hσ5 (xk_new hf1 hσ3 hk0)) (Or.inr ⟨rfl, rfl, rfl⟩) rfl (Or.inl rfl) (fun σ6 hσ6 => ?_)
  replace hw := hw σ6 hσ6
  refine x_aload_n dX5_init_20 rfl 0 rfl ?_
  refine x_iload_n dX5_init_21 rfl 2 rfl ?_
  refine x_putIN (ci := 5) (k := 1) (f := 321) dX5_init_22 wF_X5_20 (Nat.le_of_ble_eq_true rfl) (Nat.le_of_ble_eq_true rfl) (xk_I hσ6 (xk_R hσ5 (xk_new hf1 hσ3 hk0))) (Or.inr ⟨rfl, rfl, rfl⟩) rfl (Or.inl rfl) (fun σ7 hσ7 => ?_)
  replace hw := hw σ7 hσ7
  exact x_vret dX5_init_25 rfl ⟨rfl, hw⟩
end
