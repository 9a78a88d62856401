-- ===== PART A: goes FIRST, ahead of the names: the tables' words, and 'selects' of the private methods out of them =====
/-- a private method of a class that the tables say can be made, by its rows of tables_1 -/
def lw_okq (q : MethodName × Nat) : Prop := (q.1.cls ≠ "java/lang/invoke/MethodHandle" ∧ q.1.cls ≠ "java/lang/invoke/VarHandle") ∧ Cond.instantiable q.1.cls q.2 ∈ tables_1 ∧ Cond.privateMethod q.1 ∈ tables_1 ∧ Cond.instanceMethod q.1 ∈ tables_1
theorem lw_p0 : lw_okq (⟨"QuotedLayers$Passage", "there", "()LQuotedLayers$Row;"⟩, 5) := ⟨⟨by decide +kernel, by decide +kernel⟩, List.mem_of_getElem? (i := 88) (by decide +kernel), List.mem_of_getElem? (i := 273) (by decide +kernel), List.mem_of_getElem? (i := 274) (by decide +kernel)⟩
theorem lw_p1 : lw_okq (⟨"QuotedLayers$Layer", "addMark", "(LQuotedLayers$Row;)V"⟩, 4) := ⟨⟨by decide +kernel, by decide +kernel⟩, List.mem_of_getElem? (i := 42) (by decide +kernel), List.mem_of_getElem? (i := 281) (by decide +kernel), List.mem_of_getElem? (i := 282) (by decide +kernel)⟩
theorem lw_p2 : lw_okq (⟨"QuotedLayers$Layer", "meansSomething", "(I)Z"⟩, 4) := ⟨⟨by decide +kernel, by decide +kernel⟩, List.mem_of_getElem? (i := 42) (by decide +kernel), List.mem_of_getElem? (i := 285) (by decide +kernel), List.mem_of_getElem? (i := 286) (by decide +kernel)⟩
theorem lw_p3 : lw_okq (⟨"QuotedLayers$Layer", "putMasked", "(ILQuotedLayers$Row;)V"⟩, 4) := ⟨⟨by decide +kernel, by decide +kernel⟩, List.mem_of_getElem? (i := 42) (by decide +kernel), List.mem_of_getElem? (i := 290) (by decide +kernel), List.mem_of_getElem? (i := 291) (by decide +kernel)⟩
theorem lw_p4 : lw_okq (⟨"QuotedLayers$Passage", "step", "()V"⟩, 5) := ⟨⟨by decide +kernel, by decide +kernel⟩, List.mem_of_getElem? (i := 88) (by decide +kernel), List.mem_of_getElem? (i := 301) (by decide +kernel), List.mem_of_getElem? (i := 302) (by decide +kernel)⟩
theorem lw_p5 : lw_okq (⟨"QuotedLayers", "lengthOfLone", "(I)I"⟩, 9) := ⟨⟨by decide +kernel, by decide +kernel⟩, List.mem_of_getElem? (i := 10) (by decide +kernel), List.mem_of_getElem? (i := 319) (by decide +kernel), List.mem_of_getElem? (i := 320) (by decide +kernel)⟩
theorem lw_p6 : lw_okq (⟨"QuotedLayers$Layer", "endsAt", "(LQuotedLayers$Row;I)Z"⟩, 4) := ⟨⟨by decide +kernel, by decide +kernel⟩, List.mem_of_getElem? (i := 42) (by decide +kernel), List.mem_of_getElem? (i := 347) (by decide +kernel), List.mem_of_getElem? (i := 348) (by decide +kernel)⟩
theorem lw_p7 : lw_okq (⟨"QuotedLayers$Layer", "meantAt", "(LQuotedLayers$Row;I)I"⟩, 4) := ⟨⟨by decide +kernel, by decide +kernel⟩, List.mem_of_getElem? (i := 42) (by decide +kernel), List.mem_of_getElem? (i := 351) (by decide +kernel), List.mem_of_getElem? (i := 352) (by decide +kernel)⟩
theorem lw_p8 : lw_okq (⟨"QuotedLayers$Layer", "widthOf", "(I)I"⟩, 4) := ⟨⟨by decide +kernel, by decide +kernel⟩, List.mem_of_getElem? (i := 42) (by decide +kernel), List.mem_of_getElem? (i := 357) (by decide +kernel), List.mem_of_getElem? (i := 358) (by decide +kernel)⟩
theorem lw_p9 : lw_okq (⟨"QuotedLayers", "isPlace", "(I)Z"⟩, 9) := ⟨⟨by decide +kernel, by decide +kernel⟩, List.mem_of_getElem? (i := 10) (by decide +kernel), List.mem_of_getElem? (i := 369) (by decide +kernel), List.mem_of_getElem? (i := 370) (by decide +kernel)⟩
theorem lw_p10 : lw_okq (⟨"QuotedLayers", "outcome", "(LQuotedLayers$Row;LQuotedLayers$Row;I)I"⟩, 9) := ⟨⟨by decide +kernel, by decide +kernel⟩, List.mem_of_getElem? (i := 10) (by decide +kernel), List.mem_of_getElem? (i := 373) (by decide +kernel), List.mem_of_getElem? (i := 374) (by decide +kernel)⟩
theorem lw_p11 : lw_okq (⟨"QuotedLayers", "padIsSpillRow", "()Z"⟩, 9) := ⟨⟨by decide +kernel, by decide +kernel⟩, List.mem_of_getElem? (i := 10) (by decide +kernel), List.mem_of_getElem? (i := 385) (by decide +kernel), List.mem_of_getElem? (i := 386) (by decide +kernel)⟩
theorem lw_p12 : lw_okq (⟨"QuotedLayers", "findShortestSpill", "(I)Z"⟩, 9) := ⟨⟨by decide +kernel, by decide +kernel⟩, List.mem_of_getElem? (i := 10) (by decide +kernel), List.mem_of_getElem? (i := 390) (by decide +kernel), List.mem_of_getElem? (i := 391) (by decide +kernel)⟩
theorem lw_p13 : lw_okq (⟨"QuotedLayers", "spellTrial", "()V"⟩, 9) := ⟨⟨by decide +kernel, by decide +kernel⟩, List.mem_of_getElem? (i := 10) (by decide +kernel), List.mem_of_getElem? (i := 398) (by decide +kernel), List.mem_of_getElem? (i := 399) (by decide +kernel)⟩
theorem lw_p14 : lw_okq (⟨"QuotedLayers", "readsPadWholly", "(LQuotedLayers$Row;)Z"⟩, 9) := ⟨⟨by decide +kernel, by decide +kernel⟩, List.mem_of_getElem? (i := 10) (by decide +kernel), List.mem_of_getElem? (i := 419) (by decide +kernel), List.mem_of_getElem? (i := 420) (by decide +kernel)⟩
theorem lw_p15 : lw_okq (⟨"QuotedLayers", "findShortestOrder", "()I"⟩, 9) := ⟨⟨by decide +kernel, by decide +kernel⟩, List.mem_of_getElem? (i := 10) (by decide +kernel), List.mem_of_getElem? (i := 434) (by decide +kernel), List.mem_of_getElem? (i := 435) (by decide +kernel)⟩
def lw_privs_1 : List (MethodName × Nat) := [(⟨"QuotedLayers$Passage", "there", "()LQuotedLayers$Row;"⟩, 5), (⟨"QuotedLayers$Layer", "addMark", "(LQuotedLayers$Row;)V"⟩, 4), (⟨"QuotedLayers$Layer", "meansSomething", "(I)Z"⟩, 4), (⟨"QuotedLayers$Layer", "putMasked", "(ILQuotedLayers$Row;)V"⟩, 4), (⟨"QuotedLayers$Passage", "step", "()V"⟩, 5), (⟨"QuotedLayers", "lengthOfLone", "(I)I"⟩, 9), (⟨"QuotedLayers$Layer", "endsAt", "(LQuotedLayers$Row;I)Z"⟩, 4), (⟨"QuotedLayers$Layer", "meantAt", "(LQuotedLayers$Row;I)I"⟩, 4), (⟨"QuotedLayers$Layer", "widthOf", "(I)I"⟩, 4), (⟨"QuotedLayers", "isPlace", "(I)Z"⟩, 9), (⟨"QuotedLayers", "outcome", "(LQuotedLayers$Row;LQuotedLayers$Row;I)I"⟩, 9), (⟨"QuotedLayers", "padIsSpillRow", "()Z"⟩, 9), (⟨"QuotedLayers", "findShortestSpill", "(I)Z"⟩, 9), (⟨"QuotedLayers", "spellTrial", "()V"⟩, 9), (⟨"QuotedLayers", "readsPadWholly", "(LQuotedLayers$Row;)Z"⟩, 9), (⟨"QuotedLayers", "findShortestOrder", "()I"⟩, 9)]
theorem lw_r1 : ∀ q ∈ lw_privs_1, lw_okq q := List.forall_mem_cons.mpr ⟨lw_p0, List.forall_mem_cons.mpr ⟨lw_p1, List.forall_mem_cons.mpr ⟨lw_p2, List.forall_mem_cons.mpr ⟨lw_p3, List.forall_mem_cons.mpr ⟨lw_p4, List.forall_mem_cons.mpr ⟨lw_p5, List.forall_mem_cons.mpr ⟨lw_p6, List.forall_mem_cons.mpr ⟨lw_p7, List.forall_mem_cons.mpr ⟨lw_p8, List.forall_mem_cons.mpr ⟨lw_p9, List.forall_mem_cons.mpr ⟨lw_p10, List.forall_mem_cons.mpr ⟨lw_p11, List.forall_mem_cons.mpr ⟨lw_p12, List.forall_mem_cons.mpr ⟨lw_p13, List.forall_mem_cons.mpr ⟨lw_p14, List.forall_mem_cons.mpr ⟨lw_p15, fun _ h => absurd h List.not_mem_nil⟩⟩⟩⟩⟩⟩⟩⟩⟩⟩⟩⟩⟩⟩⟩⟩
theorem lw_p16 : lw_okq (⟨"QuotedLayers", "lengthInOrder", "(LQuotedLayers$Row;)I"⟩, 9) := ⟨⟨by decide +kernel, by decide +kernel⟩, List.mem_of_getElem? (i := 10) (by decide +kernel), List.mem_of_getElem? (i := 438) (by decide +kernel), List.mem_of_getElem? (i := 439) (by decide +kernel)⟩
theorem lw_p17 : lw_okq (⟨"QuotedLayers", "imageAt", "(I)LQuotedLayers$Stand;"⟩, 9) := ⟨⟨by decide +kernel, by decide +kernel⟩, List.mem_of_getElem? (i := 10) (by decide +kernel), List.mem_of_getElem? (i := 460) (by decide +kernel), List.mem_of_getElem? (i := 461) (by decide +kernel)⟩
theorem lw_p18 : lw_okq (⟨"QuotedLayersModel", "faultOf", "()I"⟩, 22) := ⟨⟨by decide +kernel, by decide +kernel⟩, List.mem_of_getElem? (i := 483) (by decide +kernel), List.mem_of_getElem? (i := 572) (by decide +kernel), List.mem_of_getElem? (i := 573) (by decide +kernel)⟩
theorem lw_p19 : lw_okq (⟨"QuotedLayersModel", "isNew", "(I)Z"⟩, 22) := ⟨⟨by decide +kernel, by decide +kernel⟩, List.mem_of_getElem? (i := 483) (by decide +kernel), List.mem_of_getElem? (i := 576) (by decide +kernel), List.mem_of_getElem? (i := 577) (by decide +kernel)⟩
theorem lw_p20 : lw_okq (⟨"QuotedLayersModel", "layText", "()V"⟩, 22) := ⟨⟨by decide +kernel, by decide +kernel⟩, List.mem_of_getElem? (i := 483) (by decide +kernel), List.mem_of_getElem? (i := 610) (by decide +kernel), List.mem_of_getElem? (i := 611) (by decide +kernel)⟩
theorem lw_p21 : lw_okq (⟨"QuotedLayersModel", "goThrough", "(II)I"⟩, 22) := ⟨⟨by decide +kernel, by decide +kernel⟩, List.mem_of_getElem? (i := 483) (by decide +kernel), List.mem_of_getElem? (i := 614) (by decide +kernel), List.mem_of_getElem? (i := 615) (by decide +kernel)⟩
theorem lw_p22 : lw_okq (⟨"QuotedLayersModel", "put", "(IZ)I"⟩, 22) := ⟨⟨by decide +kernel, by decide +kernel⟩, List.mem_of_getElem? (i := 483) (by decide +kernel), List.mem_of_getElem? (i := 618) (by decide +kernel), List.mem_of_getElem? (i := 619) (by decide +kernel)⟩
theorem lw_p23 : lw_okq (⟨"QuotedLayersModel", "hasMark", "(I)Z"⟩, 22) := ⟨⟨by decide +kernel, by decide +kernel⟩, List.mem_of_getElem? (i := 483) (by decide +kernel), List.mem_of_getElem? (i := 622) (by decide +kernel), List.mem_of_getElem? (i := 623) (by decide +kernel)⟩
theorem lw_p24 : lw_okq (⟨"QuotedLayersModel", "isMasked", "(II)Z"⟩, 22) := ⟨⟨by decide +kernel, by decide +kernel⟩, List.mem_of_getElem? (i := 483) (by decide +kernel), List.mem_of_getElem? (i := 626) (by decide +kernel), List.mem_of_getElem? (i := 627) (by decide +kernel)⟩
theorem lw_p25 : lw_okq (⟨"QuotedLayersModel", "isHeld", "(II)Z"⟩, 22) := ⟨⟨by decide +kernel, by decide +kernel⟩, List.mem_of_getElem? (i := 483) (by decide +kernel), List.mem_of_getElem? (i := 630) (by decide +kernel), List.mem_of_getElem? (i := 631) (by decide +kernel)⟩
theorem lw_p26 : lw_okq (⟨"QuotedLayersModel", "growsOf", "(I)I"⟩, 22) := ⟨⟨by decide +kernel, by decide +kernel⟩, List.mem_of_getElem? (i := 483) (by decide +kernel), List.mem_of_getElem? (i := 645) (by decide +kernel), List.mem_of_getElem? (i := 646) (by decide +kernel)⟩
theorem lw_p27 : lw_okq (⟨"QuotedLayersModel", "lengthOf", "(I)I"⟩, 22) := ⟨⟨by decide +kernel, by decide +kernel⟩, List.mem_of_getElem? (i := 483) (by decide +kernel), List.mem_of_getElem? (i := 649) (by decide +kernel), List.mem_of_getElem? (i := 650) (by decide +kernel)⟩
theorem lw_p28 : lw_okq (⟨"QuotedLayersModel", "layPad", "()V"⟩, 22) := ⟨⟨by decide +kernel, by decide +kernel⟩, List.mem_of_getElem? (i := 483) (by decide +kernel), List.mem_of_getElem? (i := 665) (by decide +kernel), List.mem_of_getElem? (i := 666) (by decide +kernel)⟩
theorem lw_p29 : lw_okq (⟨"QuotedLayersModel", "readBack", "()I"⟩, 22) := ⟨⟨by decide +kernel, by decide +kernel⟩, List.mem_of_getElem? (i := 483) (by decide +kernel), List.mem_of_getElem? (i := 669) (by decide +kernel), List.mem_of_getElem? (i := 670) (by decide +kernel)⟩
theorem lw_p30 : lw_okq (⟨"QuotedLayersModel", "readBy", "(I)I"⟩, 22) := ⟨⟨by decide +kernel, by decide +kernel⟩, List.mem_of_getElem? (i := 483) (by decide +kernel), List.mem_of_getElem? (i := 673) (by decide +kernel), List.mem_of_getElem? (i := 674) (by decide +kernel)⟩
theorem lw_p31 : lw_okq (⟨"QuotedLayersModel", "codeAt", "(I)I"⟩, 22) := ⟨⟨by decide +kernel, by decide +kernel⟩, List.mem_of_getElem? (i := 483) (by decide +kernel), List.mem_of_getElem? (i := 677) (by decide +kernel), List.mem_of_getElem? (i := 678) (by decide +kernel)⟩
def lw_privs_2 : List (MethodName × Nat) := [(⟨"QuotedLayers", "lengthInOrder", "(LQuotedLayers$Row;)I"⟩, 9), (⟨"QuotedLayers", "imageAt", "(I)LQuotedLayers$Stand;"⟩, 9), (⟨"QuotedLayersModel", "faultOf", "()I"⟩, 22), (⟨"QuotedLayersModel", "isNew", "(I)Z"⟩, 22), (⟨"QuotedLayersModel", "layText", "()V"⟩, 22), (⟨"QuotedLayersModel", "goThrough", "(II)I"⟩, 22), (⟨"QuotedLayersModel", "put", "(IZ)I"⟩, 22), (⟨"QuotedLayersModel", "hasMark", "(I)Z"⟩, 22), (⟨"QuotedLayersModel", "isMasked", "(II)Z"⟩, 22), (⟨"QuotedLayersModel", "isHeld", "(II)Z"⟩, 22), (⟨"QuotedLayersModel", "growsOf", "(I)I"⟩, 22), (⟨"QuotedLayersModel", "lengthOf", "(I)I"⟩, 22), (⟨"QuotedLayersModel", "layPad", "()V"⟩, 22), (⟨"QuotedLayersModel", "readBack", "()I"⟩, 22), (⟨"QuotedLayersModel", "readBy", "(I)I"⟩, 22), (⟨"QuotedLayersModel", "codeAt", "(I)I"⟩, 22)]
theorem lw_r2 : ∀ q ∈ lw_privs_2, lw_okq q := List.forall_mem_cons.mpr ⟨lw_p16, List.forall_mem_cons.mpr ⟨lw_p17, List.forall_mem_cons.mpr ⟨lw_p18, List.forall_mem_cons.mpr ⟨lw_p19, List.forall_mem_cons.mpr ⟨lw_p20, List.forall_mem_cons.mpr ⟨lw_p21, List.forall_mem_cons.mpr ⟨lw_p22, List.forall_mem_cons.mpr ⟨lw_p23, List.forall_mem_cons.mpr ⟨lw_p24, List.forall_mem_cons.mpr ⟨lw_p25, List.forall_mem_cons.mpr ⟨lw_p26, List.forall_mem_cons.mpr ⟨lw_p27, List.forall_mem_cons.mpr ⟨lw_p28, List.forall_mem_cons.mpr ⟨lw_p29, List.forall_mem_cons.mpr ⟨lw_p30, List.forall_mem_cons.mpr ⟨lw_p31, fun _ h => absurd h List.not_mem_nil⟩⟩⟩⟩⟩⟩⟩⟩⟩⟩⟩⟩⟩⟩⟩⟩
theorem lw_p32 : lw_okq (⟨"QuotedLayersModel", "keepText", "()V"⟩, 22) := ⟨⟨by decide +kernel, by decide +kernel⟩, List.mem_of_getElem? (i := 483) (by decide +kernel), List.mem_of_getElem? (i := 688) (by decide +kernel), List.mem_of_getElem? (i := 689) (by decide +kernel)⟩
theorem lw_p33 : lw_okq (⟨"QuotedLayersModel", "howBack", "()I"⟩, 22) := ⟨⟨by decide +kernel, by decide +kernel⟩, List.mem_of_getElem? (i := 483) (by decide +kernel), List.mem_of_getElem? (i := 692) (by decide +kernel), List.mem_of_getElem? (i := 693) (by decide +kernel)⟩
theorem lw_p34 : lw_okq (⟨"QuotedLayersModel", "isRow", "()Z"⟩, 22) := ⟨⟨by decide +kernel, by decide +kernel⟩, List.mem_of_getElem? (i := 483) (by decide +kernel), List.mem_of_getElem? (i := 700) (by decide +kernel), List.mem_of_getElem? (i := 701) (by decide +kernel)⟩
theorem lw_p35 : lw_okq (⟨"QuotedLayersModel", "isAsAtFirst", "(I)Z"⟩, 22) := ⟨⟨by decide +kernel, by decide +kernel⟩, List.mem_of_getElem? (i := 483) (by decide +kernel), List.mem_of_getElem? (i := 712) (by decide +kernel), List.mem_of_getElem? (i := 713) (by decide +kernel)⟩
theorem lw_p36 : lw_okq (⟨"QuotedLayersModel", "fitsRow", "(III)Z"⟩, 22) := ⟨⟨by decide +kernel, by decide +kernel⟩, List.mem_of_getElem? (i := 483) (by decide +kernel), List.mem_of_getElem? (i := 716) (by decide +kernel), List.mem_of_getElem? (i := 717) (by decide +kernel)⟩
theorem lw_p37 : lw_okq (⟨"QuotedLayersModel", "nextOrder", "()Z"⟩, 22) := ⟨⟨by decide +kernel, by decide +kernel⟩, List.mem_of_getElem? (i := 483) (by decide +kernel), List.mem_of_getElem? (i := 724) (by decide +kernel), List.mem_of_getElem? (i := 725) (by decide +kernel)⟩
def lw_privs_3 : List (MethodName × Nat) := [(⟨"QuotedLayersModel", "keepText", "()V"⟩, 22), (⟨"QuotedLayersModel", "howBack", "()I"⟩, 22), (⟨"QuotedLayersModel", "isRow", "()Z"⟩, 22), (⟨"QuotedLayersModel", "isAsAtFirst", "(I)Z"⟩, 22), (⟨"QuotedLayersModel", "fitsRow", "(III)Z"⟩, 22), (⟨"QuotedLayersModel", "nextOrder", "()Z"⟩, 22)]
theorem lw_r3 : ∀ q ∈ lw_privs_3, lw_okq q := List.forall_mem_cons.mpr ⟨lw_p32, List.forall_mem_cons.mpr ⟨lw_p33, List.forall_mem_cons.mpr ⟨lw_p34, List.forall_mem_cons.mpr ⟨lw_p35, List.forall_mem_cons.mpr ⟨lw_p36, List.forall_mem_cons.mpr ⟨lw_p37, fun _ h => absurd h List.not_mem_nil⟩⟩⟩⟩⟩⟩
def lw_privs : List (MethodName × Nat) := lw_privs_1 ++ (lw_privs_2 ++ (lw_privs_3))
def lw_tbl : List Cond := k2_sels lw_privs ++ tables_1
theorem lw_privs_ok : ∀ q ∈ lw_privs, lw_okq q := by
  show ∀ q ∈ lw_privs_1 ++ (lw_privs_2 ++ (lw_privs_3)), lw_okq q
  exact List.forall_mem_append.mpr ⟨lw_r1, List.forall_mem_append.mpr ⟨lw_r2, lw_r3⟩⟩
def RX0 : String := "QuotedLayers$Counting"
def TX0 : u_T := fun k => match k with
  | _ => ("", "", "", false)
def tyX0 : Nat → FieldType := fun k => match k with
  | _ => .int
abbrev wsX00 : List Cond := u_ws RX0 TX0 0
theorem nmX0 : ∀ a, a < 0 → ∀ b, b < 0 → a ≠ b → (TX0 a).2.1 ≠ (TX0 b).2.1 := by decide +kernel
theorem tyX0_ok : ∀ k, k < 0 → parseFieldDescriptor (TX0 k).2.2.1 = some (tyX0 k) := by decide +kernel
abbrev cX0_nextDigits : ByteArray := prog_2_method_2_code
def yX0_nextDigits : MethodName := ⟨RX0, "nextDigits", "(LQuotedLayers$Row;I)Z"⟩
abbrev cX0_nextOrder : ByteArray := prog_2_method_3_code
def yX0_nextOrder : MethodName := ⟨RX0, "nextOrder", "(LQuotedLayers$Row;)Z"⟩
abbrev cX0_reverseFrom : ByteArray := prog_2_method_4_code
def yX0_reverseFrom : MethodName := ⟨RX0, "reverseFrom", "(LQuotedLayers$Row;I)V"⟩
def RX1 : String := "QuotedLayers$Layer"
def TX1 : u_T := fun k => match k with
  | 0 => ("QuotedLayers$Layer", "mark", "I", false)
  | 1 => ("QuotedLayers$Layer", "way", "I", false)
  | 2 => ("QuotedLayers$Layer", "mask", "I", false)
  | _ => ("QuotedLayers$Layer", "held", "LQuotedLayers$Row;", true)
def tyX1 : Nat → FieldType := fun k => match k with
  | 0 => .int
  | 1 => .int
  | 2 => .int
  | _ => .object "QuotedLayers$Row"
abbrev wsX10 : List Cond := u_ws RX1 TX1 4
theorem nmX1 : ∀ a, a < 4 → ∀ b, b < 4 → a ≠ b → (TX1 a).2.1 ≠ (TX1 b).2.1 := by decide +kernel
theorem tyX1_ok : ∀ k, k < 4 → parseFieldDescriptor (TX1 k).2.2.1 = some (tyX1 k) := by decide +kernel
abbrev cX1_init : ByteArray := prog_3_method_1_code
def yX1_init : MethodName := ⟨RX1, "<init>", "()V"⟩
abbrev cX1_hasMask : ByteArray := prog_3_method_2_code
def yX1_hasMask : MethodName := ⟨RX1, "hasMask", "(I)Z"⟩
abbrev cX1_become : ByteArray := prog_3_method_3_code
def yX1_become : MethodName := ⟨RX1, "become", "(LQuotedLayers$Row;)V"⟩
abbrev cX1_copyFrom : ByteArray := prog_3_method_4_code
def yX1_copyFrom : MethodName := ⟨RX1, "copyFrom", "(LQuotedLayers$Layer;)V"⟩
abbrev cX1_heldCount : ByteArray := prog_3_method_5_code
def yX1_heldCount : MethodName := ⟨RX1, "heldCount", "()I"⟩
abbrev cX1_part : ByteArray := prog_3_method_6_code
def yX1_part : MethodName := ⟨RX1, "part", "(I)I"⟩
abbrev cX1_isAsAtFirst : ByteArray := prog_3_method_7_code
def yX1_isAsAtFirst : MethodName := ⟨RX1, "isAsAtFirst", "()Z"⟩
abbrev cX1_put : ByteArray := prog_3_method_8_code
def yX1_put : MethodName := ⟨RX1, "put", "(LQuotedLayers$Row;LQuotedLayers$Row;Z)I"⟩
abbrev cX1_meansSomething : ByteArray := prog_3_method_9_code
def yX1_meansSomething : MethodName := ⟨RX1, "meansSomething", "(I)Z"⟩
abbrev cX1_addMark : ByteArray := prog_3_method_10_code
def yX1_addMark : MethodName := ⟨RX1, "addMark", "(LQuotedLayers$Row;)V"⟩
abbrev cX1_putMasked : ByteArray := prog_3_method_11_code
def yX1_putMasked : MethodName := ⟨RX1, "putMasked", "(ILQuotedLayers$Row;)V"⟩
abbrev cX1_takeOff : ByteArray := prog_3_method_12_code
def yX1_takeOff : MethodName := ⟨RX1, "takeOff", "(LQuotedLayers$Row;LQuotedLayers$Row;)I"⟩
abbrev cX1_endsAt : ByteArray := prog_3_method_13_code
def yX1_endsAt : MethodName := ⟨RX1, "endsAt", "(LQuotedLayers$Row;I)Z"⟩
abbrev cX1_meantAt : ByteArray := prog_3_method_14_code
def yX1_meantAt : MethodName := ⟨RX1, "meantAt", "(LQuotedLayers$Row;I)I"⟩
abbrev cX1_widthOf : ByteArray := prog_3_method_15_code
def yX1_widthOf : MethodName := ⟨RX1, "widthOf", "(I)I"⟩
abbrev cX1_digitOf : ByteArray := prog_3_method_16_code
def yX1_digitOf : MethodName := ⟨RX1, "digitOf", "(I)I"⟩
abbrev cX1_valueOfDigit : ByteArray := prog_3_method_17_code
def yX1_valueOfDigit : MethodName := ⟨RX1, "valueOfDigit", "(I)I"⟩
def RX2 : String := "QuotedLayers$LayerText"
def TX2 : u_T := fun k => match k with
  | _ => ("", "", "", false)
def tyX2 : Nat → FieldType := fun k => match k with
  | _ => .int
abbrev wsX20 : List Cond := u_ws RX2 TX2 0
theorem nmX2 : ∀ a, a < 0 → ∀ b, b < 0 → a ≠ b → (TX2 a).2.1 ≠ (TX2 b).2.1 := by decide +kernel
theorem tyX2_ok : ∀ k, k < 0 → parseFieldDescriptor (TX2 k).2.2.1 = some (tyX2 k) := by decide +kernel
abbrev cX2_faultIn : ByteArray := prog_4_method_2_code
def yX2_faultIn : MethodName := ⟨RX2, "faultIn", "(LQuotedLayers$Row;)I"⟩
abbrev cX2_firstHeld : ByteArray := prog_4_method_3_code
def yX2_firstHeld : MethodName := ⟨RX2, "firstHeld", "(I)I"⟩
abbrev cX2_canBeMark : ByteArray := prog_4_method_4_code
def yX2_canBeMark : MethodName := ⟨RX2, "canBeMark", "(I)Z"⟩
abbrev cX2_canBeWay : ByteArray := prog_4_method_5_code
def yX2_canBeWay : MethodName := ⟨RX2, "canBeWay", "(II)Z"⟩
abbrev cX2_isNewSign : ByteArray := prog_4_method_6_code
def yX2_isNewSign : MethodName := ⟨RX2, "isNewSign", "(LQuotedLayers$Row;I)Z"⟩
def RX3 : String := "QuotedLayers$Passage"
def TX3 : u_T := fun k => match k with
  | 0 => ("QuotedLayers$Passage", "first", "LQuotedLayers$Row;", true)
  | 1 => ("QuotedLayers$Passage", "second", "LQuotedLayers$Row;", true)
  | 2 => ("QuotedLayers$Passage", "isInSecond", "Z", false)
  | 3 => ("QuotedLayers$Passage", "barringPlace", "I", false)
  | _ => ("QuotedLayers$Passage", "badSign", "I", false)
def tyX3 : Nat → FieldType := fun k => match k with
  | 0 => .object "QuotedLayers$Row"
  | 1 => .object "QuotedLayers$Row"
  | 2 => .boolean
  | 3 => .int
  | _ => .int
abbrev wsX30 : List Cond := u_ws RX3 TX3 5
theorem nmX3 : ∀ a, a < 5 → ∀ b, b < 5 → a ≠ b → (TX3 a).2.1 ≠ (TX3 b).2.1 := by decide +kernel
theorem tyX3_ok : ∀ k, k < 5 → parseFieldDescriptor (TX3 k).2.2.1 = some (tyX3 k) := by decide +kernel
abbrev cX3_init : ByteArray := prog_5_method_1_code
def yX3_init : MethodName := ⟨RX3, "<init>", "()V"⟩
abbrev cX3_here : ByteArray := prog_5_method_2_code
def yX3_here : MethodName := ⟨RX3, "here", "()LQuotedLayers$Row;"⟩
abbrev cX3_there : ByteArray := prog_5_method_3_code
def yX3_there : MethodName := ⟨RX3, "there", "()LQuotedLayers$Row;"⟩
abbrev cX3_step : ByteArray := prog_5_method_4_code
def yX3_step : MethodName := ⟨RX3, "step", "()V"⟩
abbrev cX3_barringPlace : ByteArray := prog_5_method_5_code
def yX3_barringPlace : MethodName := ⟨RX3, "barringPlace", "()I"⟩
abbrev cX3_badSign : ByteArray := prog_5_method_6_code
def yX3_badSign : MethodName := ⟨RX3, "badSign", "()I"⟩
abbrev cX3_begin : ByteArray := prog_5_method_7_code
def yX3_begin : MethodName := ⟨RX3, "begin", "(LQuotedLayers$Row;)V"⟩
abbrev cX3_putThrough : ByteArray := prog_5_method_8_code
def yX3_putThrough : MethodName := ⟨RX3, "putThrough", "(LQuotedLayers$Stand;LQuotedLayers$Row;LQuotedLayers$Row;I)I"⟩
abbrev cX3_readBack : ByteArray := prog_5_method_9_code
def yX3_readBack : MethodName := ⟨RX3, "readBack", "(LQuotedLayers$Stand;LQuotedLayers$Row;)I"⟩
def RX4 : String := "QuotedLayers$Row"
def TX4 : u_T := fun k => match k with
  | 0 => ("QuotedLayers$Row", "numbers", "[I", true)
  | 1 => ("QuotedLayers$Row", "count", "I", false)
  | _ => ("QuotedLayers$Row", "over", "Z", false)
def tyX4 : Nat → FieldType := fun k => match k with
  | 0 => .array .int
  | 1 => .int
  | _ => .boolean
abbrev wsX40 : List Cond := u_ws RX4 TX4 3
theorem nmX4 : ∀ a, a < 3 → ∀ b, b < 3 → a ≠ b → (TX4 a).2.1 ≠ (TX4 b).2.1 := by decide +kernel
theorem tyX4_ok : ∀ k, k < 3 → parseFieldDescriptor (TX4 k).2.2.1 = some (tyX4 k) := by decide +kernel
abbrev cX4_init : ByteArray := prog_6_method_1_code
def yX4_init : MethodName := ⟨RX4, "<init>", "(I)V"⟩
abbrev cX4_size : ByteArray := prog_6_method_2_code
def yX4_size : MethodName := ⟨RX4, "size", "()I"⟩
abbrev cX4_at : ByteArray := prog_6_method_3_code
def yX4_at : MethodName := ⟨RX4, "at", "(I)I"⟩
abbrev cX4_set : ByteArray := prog_6_method_4_code
def yX4_set : MethodName := ⟨RX4, "set", "(II)V"⟩
abbrev cX4_add : ByteArray := prog_6_method_5_code
def yX4_add : MethodName := ⟨RX4, "add", "(I)V"⟩
abbrev cX4_isOver : ByteArray := prog_6_method_6_code
def yX4_isOver : MethodName := ⟨RX4, "isOver", "()Z"⟩
abbrev cX4_dropLast : ByteArray := prog_6_method_7_code
def yX4_dropLast : MethodName := ⟨RX4, "dropLast", "()V"⟩
abbrev cX4_clear : ByteArray := prog_6_method_8_code
def yX4_clear : MethodName := ⟨RX4, "clear", "()V"⟩
abbrev cX4_copyFrom : ByteArray := prog_6_method_9_code
def yX4_copyFrom : MethodName := ⟨RX4, "copyFrom", "(LQuotedLayers$Row;)V"⟩
abbrev cX4_copyFirst : ByteArray := prog_6_method_10_code
def yX4_copyFirst : MethodName := ⟨RX4, "copyFirst", "(LQuotedLayers$Row;I)V"⟩
abbrev cX4_fillZeros : ByteArray := prog_6_method_11_code
def yX4_fillZeros : MethodName := ⟨RX4, "fillZeros", "(I)Z"⟩
abbrev cX4_sameAs : ByteArray := prog_6_method_12_code
def yX4_sameAs : MethodName := ⟨RX4, "sameAs", "(LQuotedLayers$Row;)Z"⟩
abbrev cX4_hasAhead : ByteArray := prog_6_method_13_code
def yX4_hasAhead : MethodName := ⟨RX4, "hasAhead", "(II)Z"⟩
abbrev cX4_swap : ByteArray := prog_6_method_14_code
def yX4_swap : MethodName := ⟨RX4, "swap", "(II)V"⟩
def RX5 : String := "QuotedLayers$Stand"
def TX5 : u_T := fun k => match k with
  | 0 => ("QuotedLayers$Stand", "layers", "[LQuotedLayers$Layer;", true)
  | 1 => ("QuotedLayers$Stand", "asAtFirst", "LQuotedLayers$Layer;", true)
  | 2 => ("QuotedLayers$Stand", "chainLayers", "LQuotedLayers$Row;", true)
  | 3 => ("QuotedLayers$Stand", "textSigns", "LQuotedLayers$Row;", true)
  | _ => ("QuotedLayers$Stand", "kept", "Z", false)
def tyX5 : Nat → FieldType := fun k => match k with
  | 0 => .array (.object "QuotedLayers$Layer")
  | 1 => .object "QuotedLayers$Layer"
  | 2 => .object "QuotedLayers$Row"
  | 3 => .object "QuotedLayers$Row"
  | _ => .boolean
abbrev wsX50 : List Cond := u_ws RX5 TX5 5
theorem nmX5 : ∀ a, a < 5 → ∀ b, b < 5 → a ≠ b → (TX5 a).2.1 ≠ (TX5 b).2.1 := by decide +kernel
theorem tyX5_ok : ∀ k, k < 5 → parseFieldDescriptor (TX5 k).2.2.1 = some (tyX5 k) := by decide +kernel
abbrev cX5_init : ByteArray := prog_7_method_1_code
def yX5_init : MethodName := ⟨RX5, "<init>", "()V"⟩
abbrev cX5_layerAt : ByteArray := prog_7_method_2_code
def yX5_layerAt : MethodName := ⟨RX5, "layerAt", "(I)LQuotedLayers$Layer;"⟩
abbrev cX5_copyFrom : ByteArray := prog_7_method_3_code
def yX5_copyFrom : MethodName := ⟨RX5, "copyFrom", "(LQuotedLayers$Stand;)V"⟩
def RX6 : String := "QuotedLayers"
def TX6 : u_T := fun k => match k with
  | 0 => ("QuotedLayers", "pad", "LQuotedLayers$Row;", true)
  | 1 => ("QuotedLayers", "stand", "LQuotedLayers$Stand;", true)
  | 2 => ("QuotedLayers", "firstImage", "LQuotedLayers$Stand;", true)
  | 3 => ("QuotedLayers", "secondImage", "LQuotedLayers$Stand;", true)
  | 4 => ("QuotedLayers", "passage", "LQuotedLayers$Passage;", true)
  | 5 => ("QuotedLayers", "trial", "LQuotedLayers$Row;", true)
  | 6 => ("QuotedLayers", "line", "LQuotedLayers$Row;", true)
  | 7 => ("QuotedLayers", "digits", "LQuotedLayers$Row;", true)
  | _ => ("QuotedLayers", "shortestPlaces", "LQuotedLayers$Row;", true)
def tyX6 : Nat → FieldType := fun k => match k with
  | 0 => .object "QuotedLayers$Row"
  | 1 => .object "QuotedLayers$Stand"
  | 2 => .object "QuotedLayers$Stand"
  | 3 => .object "QuotedLayers$Stand"
  | 4 => .object "QuotedLayers$Passage"
  | 5 => .object "QuotedLayers$Row"
  | 6 => .object "QuotedLayers$Row"
  | 7 => .object "QuotedLayers$Row"
  | _ => .object "QuotedLayers$Row"
abbrev wsX60 : List Cond := u_ws RX6 TX6 9
theorem nmX6 : ∀ a, a < 9 → ∀ b, b < 9 → a ≠ b → (TX6 a).2.1 ≠ (TX6 b).2.1 := by decide +kernel
theorem tyX6_ok : ∀ k, k < 9 → parseFieldDescriptor (TX6 k).2.2.1 = some (tyX6 k) := by decide +kernel
abbrev cX6_init : ByteArray := prog_1_method_1_code
def yX6_init : MethodName := ⟨RX6, "<init>", "()V"⟩
abbrev cX6_say : ByteArray := prog_1_method_2_code
def yX6_say : MethodName := ⟨RX6, "say", "(I)I"⟩
abbrev cX6_wipe : ByteArray := prog_1_method_3_code
def yX6_wipe : MethodName := ⟨RX6, "wipe", "()I"⟩
abbrev cX6_fault : ByteArray := prog_1_method_4_code
def yX6_fault : MethodName := ⟨RX6, "fault", "()I"⟩
abbrev cX6_layer : ByteArray := prog_1_method_5_code
def yX6_layer : MethodName := ⟨RX6, "layer", "(I)I"⟩
abbrev cX6_about : ByteArray := prog_1_method_6_code
def yX6_about : MethodName := ⟨RX6, "about", "(II)I"⟩
abbrev cX6_chain : ByteArray := prog_1_method_7_code
def yX6_chain : MethodName := ⟨RX6, "chain", "(I)I"⟩
abbrev cX6_unchain : ByteArray := prog_1_method_8_code
def yX6_unchain : MethodName := ⟨RX6, "unchain", "()I"⟩
abbrev cX6_text : ByteArray := prog_1_method_9_code
def yX6_text : MethodName := ⟨RX6, "text", "()I"⟩
abbrev cX6_behind : ByteArray := prog_1_method_10_code
def yX6_behind : MethodName := ⟨RX6, "behind", "(II)I"⟩
abbrev cX6_barred : ByteArray := prog_1_method_11_code
def yX6_barred : MethodName := ⟨RX6, "barred", "()I"⟩
abbrev cX6_grows : ByteArray := prog_1_method_12_code
def yX6_grows : MethodName := ⟨RX6, "grows", "(I)I"⟩
abbrev cX6_safe : ByteArray := prog_1_method_13_code
def yX6_safe : MethodName := ⟨RX6, "safe", "(I)I"⟩
abbrev cX6_dearest : ByteArray := prog_1_method_14_code
def yX6_dearest : MethodName := ⟨RX6, "dearest", "()I"⟩
abbrev cX6_read : ByteArray := prog_1_method_15_code
def yX6_read : MethodName := ⟨RX6, "read", "(I)I"⟩
abbrev cX6_spills : ByteArray := prog_1_method_16_code
def yX6_spills : MethodName := ⟨RX6, "spills", "(I)I"⟩
abbrev cX6_spill : ByteArray := prog_1_method_17_code
def yX6_spill : MethodName := ⟨RX6, "spill", "(II)I"⟩
abbrev cX6_twice : ByteArray := prog_1_method_18_code
def yX6_twice : MethodName := ⟨RX6, "twice", "(I)I"⟩
abbrev cX6_rows : ByteArray := prog_1_method_19_code
def yX6_rows : MethodName := ⟨RX6, "rows", "(I)I"⟩
abbrev cX6_order : ByteArray := prog_1_method_20_code
def yX6_order : MethodName := ⟨RX6, "order", "(I)I"⟩
abbrev cX6_image : ByteArray := prog_1_method_21_code
def yX6_image : MethodName := ⟨RX6, "image", "(I)I"⟩
abbrev cX6_restore : ByteArray := prog_1_method_22_code
def yX6_restore : MethodName := ⟨RX6, "restore", "(I)I"⟩
abbrev cX6_told : ByteArray := prog_1_method_23_code
def yX6_told : MethodName := ⟨RX6, "told", "(I)I"⟩
abbrev cX6_isSign : ByteArray := prog_1_method_24_code
def yX6_isSign : MethodName := ⟨RX6, "isSign", "(I)Z"⟩
abbrev cX6_isLayer : ByteArray := prog_1_method_25_code
def yX6_isLayer : MethodName := ⟨RX6, "isLayer", "(I)Z"⟩
abbrev cX6_isImage : ByteArray := prog_1_method_26_code
def yX6_isImage : MethodName := ⟨RX6, "isImage", "(I)Z"⟩
abbrev cX6_imageAt : ByteArray := prog_1_method_27_code
def yX6_imageAt : MethodName := ⟨RX6, "imageAt", "(I)LQuotedLayers$Stand;"⟩
abbrev cX6_isPlace : ByteArray := prog_1_method_28_code
def yX6_isPlace : MethodName := ⟨RX6, "isPlace", "(I)Z"⟩
abbrev cX6_lengthOfLone : ByteArray := prog_1_method_29_code
def yX6_lengthOfLone : MethodName := ⟨RX6, "lengthOfLone", "(I)I"⟩
abbrev cX6_outcome : ByteArray := prog_1_method_30_code
def yX6_outcome : MethodName := ⟨RX6, "outcome", "(LQuotedLayers$Row;LQuotedLayers$Row;I)I"⟩
abbrev cX6_padIsSpillRow : ByteArray := prog_1_method_31_code
def yX6_padIsSpillRow : MethodName := ⟨RX6, "padIsSpillRow", "()Z"⟩
abbrev cX6_findShortestSpill : ByteArray := prog_1_method_32_code
def yX6_findShortestSpill : MethodName := ⟨RX6, "findShortestSpill", "(I)Z"⟩
abbrev cX6_spellTrial : ByteArray := prog_1_method_33_code
def yX6_spellTrial : MethodName := ⟨RX6, "spellTrial", "()V"⟩
abbrev cX6_readsPadWholly : ByteArray := prog_1_method_34_code
def yX6_readsPadWholly : MethodName := ⟨RX6, "readsPadWholly", "(LQuotedLayers$Row;)Z"⟩
abbrev cX6_asDigits : ByteArray := prog_1_method_35_code
def yX6_asDigits : MethodName := ⟨RX6, "asDigits", "(LQuotedLayers$Row;)I"⟩
abbrev cX6_findShortestOrder : ByteArray := prog_1_method_36_code
def yX6_findShortestOrder : MethodName := ⟨RX6, "findShortestOrder", "()I"⟩
abbrev cX6_lengthInOrder : ByteArray := prog_1_method_37_code
def yX6_lengthInOrder : MethodName := ⟨RX6, "lengthInOrder", "(LQuotedLayers$Row;)I"⟩
def RX7 : String := "QuotedLayersModel"
def TX7 : u_T := fun k => match k with
  | 0 => ("QuotedLayersModel", "signs", "I", false)
  | 1 => ("QuotedLayersModel", "pad", "[I", true)
  | 2 => ("QuotedLayersModel", "mark", "[I", true)
  | 3 => ("QuotedLayersModel", "way", "[I", true)
  | 4 => ("QuotedLayersModel", "mask", "[I", true)
  | 5 => ("QuotedLayersModel", "many", "[I", true)
  | 6 => ("QuotedLayersModel", "held", "[I", true)
  | 7 => ("QuotedLayersModel", "chained", "I", false)
  | 8 => ("QuotedLayersModel", "chain", "[I", true)
  | 9 => ("QuotedLayersModel", "texts", "I", false)
  | 10 => ("QuotedLayersModel", "text", "[I", true)
  | 11 => ("QuotedLayersModel", "length", "I", false)
  | 12 => ("QuotedLayersModel", "row", "[I", true)
  | 13 => ("QuotedLayersModel", "other", "[I", true)
  | 14 => ("QuotedLayersModel", "place", "I", false)
  | 15 => ("QuotedLayersModel", "first", "[I", true)
  | 16 => ("QuotedLayersModel", "firsts", "I", false)
  | 17 => ("QuotedLayersModel", "places", "[I", true)
  | 18 => ("QuotedLayersModel", "bestPlaces", "[I", true)
  | 19 => ("QuotedLayersModel", "kept", "[I", true)
  | 20 => ("QuotedLayersModel", "image", "[I", true)
  | _ => ("QuotedLayersModel", "isKept", "[Z", true)
def tyX7 : Nat → FieldType := fun k => match k with
  | 0 => .int
  | 1 => .array .int
  | 2 => .array .int
  | 3 => .array .int
  | 4 => .array .int
  | 5 => .array .int
  | 6 => .array .int
  | 7 => .int
  | 8 => .array .int
  | 9 => .int
  | 10 => .array .int
  | 11 => .int
  | 12 => .array .int
  | 13 => .array .int
  | 14 => .int
  | 15 => .array .int
  | 16 => .int
  | 17 => .array .int
  | 18 => .array .int
  | 19 => .array .int
  | 20 => .array .int
  | _ => .array .boolean
abbrev wsX70 : List Cond := u_ws RX7 TX7 22
theorem nmX7 : ∀ a, a < 22 → ∀ b, b < 22 → a ≠ b → (TX7 a).2.1 ≠ (TX7 b).2.1 := by decide +kernel
theorem tyX7_ok : ∀ k, k < 22 → parseFieldDescriptor (TX7 k).2.2.1 = some (tyX7 k) := by decide +kernel
abbrev cX7_init : ByteArray := prog_9_method_1_code
def yX7_init : MethodName := ⟨RX7, "<init>", "()V"⟩
abbrev cX7_in : ByteArray := prog_9_method_2_code
def yX7_in : MethodName := ⟨RX7, "in", "(III)Z"⟩
abbrev cX7_isLayer : ByteArray := prog_9_method_3_code
def yX7_isLayer : MethodName := ⟨RX7, "isLayer", "(I)Z"⟩
abbrev cX7_say : ByteArray := prog_9_method_4_code
def yX7_say : MethodName := ⟨RX7, "say", "(I)I"⟩
abbrev cX7_wipe : ByteArray := prog_9_method_5_code
def yX7_wipe : MethodName := ⟨RX7, "wipe", "()I"⟩
abbrev cX7_isDigit : ByteArray := prog_9_method_6_code
def yX7_isDigit : MethodName := ⟨RX7, "isDigit", "(I)Z"⟩
abbrev cX7_isNew : ByteArray := prog_9_method_7_code
def yX7_isNew : MethodName := ⟨RX7, "isNew", "(I)Z"⟩
abbrev cX7_faultOf : ByteArray := prog_9_method_8_code
def yX7_faultOf : MethodName := ⟨RX7, "faultOf", "()I"⟩
abbrev cX7_fault : ByteArray := prog_9_method_9_code
def yX7_fault : MethodName := ⟨RX7, "fault", "()I"⟩
abbrev cX7_layer : ByteArray := prog_9_method_10_code
def yX7_layer : MethodName := ⟨RX7, "layer", "(I)I"⟩
abbrev cX7_about : ByteArray := prog_9_method_11_code
def yX7_about : MethodName := ⟨RX7, "about", "(II)I"⟩
abbrev cX7_chain : ByteArray := prog_9_method_12_code
def yX7_chain : MethodName := ⟨RX7, "chain", "(I)I"⟩
abbrev cX7_unchain : ByteArray := prog_9_method_13_code
def yX7_unchain : MethodName := ⟨RX7, "unchain", "()I"⟩
abbrev cX7_text : ByteArray := prog_9_method_14_code
def yX7_text : MethodName := ⟨RX7, "text", "()I"⟩
abbrev cX7_hasMark : ByteArray := prog_9_method_15_code
def yX7_hasMark : MethodName := ⟨RX7, "hasMark", "(I)Z"⟩
abbrev cX7_isHeld : ByteArray := prog_9_method_16_code
def yX7_isHeld : MethodName := ⟨RX7, "isHeld", "(II)Z"⟩
abbrev cX7_isMasked : ByteArray := prog_9_method_17_code
def yX7_isMasked : MethodName := ⟨RX7, "isMasked", "(II)Z"⟩
abbrev cX7_digit : ByteArray := prog_9_method_18_code
def yX7_digit : MethodName := ⟨RX7, "digit", "(I)I"⟩
abbrev cX7_put : ByteArray := prog_9_method_19_code
def yX7_put : MethodName := ⟨RX7, "put", "(IZ)I"⟩
abbrev cX7_layText : ByteArray := prog_9_method_20_code
def yX7_layText : MethodName := ⟨RX7, "layText", "()V"⟩
abbrev cX7_goThrough : ByteArray := prog_9_method_21_code
def yX7_goThrough : MethodName := ⟨RX7, "goThrough", "(II)I"⟩
abbrev cX7_behind : ByteArray := prog_9_method_22_code
def yX7_behind : MethodName := ⟨RX7, "behind", "(II)I"⟩
abbrev cX7_barred : ByteArray := prog_9_method_23_code
def yX7_barred : MethodName := ⟨RX7, "barred", "()I"⟩
abbrev cX7_lengthOf : ByteArray := prog_9_method_24_code
def yX7_lengthOf : MethodName := ⟨RX7, "lengthOf", "(I)I"⟩
abbrev cX7_growsOf : ByteArray := prog_9_method_25_code
def yX7_growsOf : MethodName := ⟨RX7, "growsOf", "(I)I"⟩
abbrev cX7_grows : ByteArray := prog_9_method_26_code
def yX7_grows : MethodName := ⟨RX7, "grows", "(I)I"⟩
abbrev cX7_safe : ByteArray := prog_9_method_27_code
def yX7_safe : MethodName := ⟨RX7, "safe", "(I)I"⟩
abbrev cX7_dearest : ByteArray := prog_9_method_28_code
def yX7_dearest : MethodName := ⟨RX7, "dearest", "()I"⟩
abbrev cX7_valueOf : ByteArray := prog_9_method_29_code
def yX7_valueOf : MethodName := ⟨RX7, "valueOf", "(I)I"⟩
abbrev cX7_codeAt : ByteArray := prog_9_method_30_code
def yX7_codeAt : MethodName := ⟨RX7, "codeAt", "(I)I"⟩
abbrev cX7_readBy : ByteArray := prog_9_method_31_code
def yX7_readBy : MethodName := ⟨RX7, "readBy", "(I)I"⟩
abbrev cX7_readBack : ByteArray := prog_9_method_32_code
def yX7_readBack : MethodName := ⟨RX7, "readBack", "()I"⟩
abbrev cX7_layPad : ByteArray := prog_9_method_33_code
def yX7_layPad : MethodName := ⟨RX7, "layPad", "()V"⟩
abbrev cX7_read : ByteArray := prog_9_method_34_code
def yX7_read : MethodName := ⟨RX7, "read", "(I)I"⟩
abbrev cX7_howBack : ByteArray := prog_9_method_35_code
def yX7_howBack : MethodName := ⟨RX7, "howBack", "()I"⟩
abbrev cX7_keepText : ByteArray := prog_9_method_36_code
def yX7_keepText : MethodName := ⟨RX7, "keepText", "()V"⟩
abbrev cX7_spills : ByteArray := prog_9_method_37_code
def yX7_spills : MethodName := ⟨RX7, "spills", "(I)I"⟩
abbrev cX7_isRow : ByteArray := prog_9_method_38_code
def yX7_isRow : MethodName := ⟨RX7, "isRow", "()Z"⟩
abbrev cX7_spill : ByteArray := prog_9_method_39_code
def yX7_spill : MethodName := ⟨RX7, "spill", "(II)I"⟩
abbrev cX7_twice : ByteArray := prog_9_method_40_code
def yX7_twice : MethodName := ⟨RX7, "twice", "(I)I"⟩
abbrev cX7_isAsAtFirst : ByteArray := prog_9_method_41_code
def yX7_isAsAtFirst : MethodName := ⟨RX7, "isAsAtFirst", "(I)Z"⟩
abbrev cX7_fitsRow : ByteArray := prog_9_method_42_code
def yX7_fitsRow : MethodName := ⟨RX7, "fitsRow", "(III)Z"⟩
abbrev cX7_rows : ByteArray := prog_9_method_43_code
def yX7_rows : MethodName := ⟨RX7, "rows", "(I)I"⟩
abbrev cX7_nextOrder : ByteArray := prog_9_method_44_code
def yX7_nextOrder : MethodName := ⟨RX7, "nextOrder", "()Z"⟩
abbrev cX7_order : ByteArray := prog_9_method_45_code
def yX7_order : MethodName := ⟨RX7, "order", "(I)I"⟩
abbrev cX7_image : ByteArray := prog_9_method_46_code
def yX7_image : MethodName := ⟨RX7, "image", "(I)I"⟩
abbrev cX7_restore : ByteArray := prog_9_method_47_code
def yX7_restore : MethodName := ⟨RX7, "restore", "(I)I"⟩
abbrev cX7_told : ByteArray := prog_9_method_48_code
def yX7_told : MethodName := ⟨RX7, "told", "(I)I"⟩
def RL : String := "QuotedLayersLaw"
abbrev cL_law : ByteArray := code
def yL_law : MethodName := ⟨RL, "law", "([I)Z"⟩
