section
-- ===== PART A: goes FIRST, ahead of the names: the tables' words, and 'selects' of the private methods out of them =====
/-- a private method of a class that the tables say can be made, by its rows of tables_1 -/
def lw_okq (q : MethodName × Nat) : Prop := (q.1.cls ≠ "java/lang/invoke/MethodHandle" ∧ q.1.cls ≠ "java/lang/invoke/VarHandle") ∧ Cond.instantiable q.1.cls q.2 ∈ tables_1 ∧ Cond.privateMethod q.1 ∈ tables_1 ∧ Cond.instanceMethod q.1 ∈ tables_1
theorem lw_p0 : lw_okq (⟨"QuotedLayers$Passage", "there", "()LQuotedLayers$Row;"⟩, 5) := ⟨⟨by decide +kernel, by decide +kernel⟩, List.mem_of_getElem? (i := 88) (by decide +kernel), List.mem_of_getElem? (i := 273) (by decide +kernel), List.mem_of_getElem? (i := 274) (by decide +kernel)⟩
theorem lw_p1 : lw_okq (⟨"QuotedLayers$Layer", "addMark", "(LQuotedLayers$Row;)V"⟩, 4) := ⟨⟨by decide +kernel, by decide +kernel⟩, List.mem_of_getElem? (i := 42) (by decide +kernel), List.mem_of_getElem? (i := 281) (by decide +kernel), List.mem_of_getElem? (i := 282) (by decide +kernel)⟩
theorem lw_p2 : lw_okq (⟨"QuotedLayers$Layer", "meansSomething", "(I)Z"⟩, 4) := ⟨⟨by decide +kernel, by decide +kernel⟩, List.mem_of_getElem? (i := 42) (by decide +kernel), List.mem_of_getElem? (i := 285) (by decide +kernel), List.mem_of_getElem? (i := 286) (by decide +kernel)⟩
theorem lw_p3 : lw_okq (⟨"QuotedLayers$Layer", "putMasked", "(ILQuotedLayers$Row;)V"⟩, 4) := ⟨⟨by decide +kernel, by decide +kernel⟩, List.mem_of_getElem? (i := 42) (by decide +kernel), List.mem_of_getElem? (i := 290) (by decide +kernel), List.mem_of_getElem? (i := 291) (by decide +kernel)⟩
theorem lw_p4 : lw_okq (⟨"QuotedLayers$Passage", "step", "()V"⟩, 5) := ⟨⟨by decide +kernel, by decide +kernel⟩, List.mem_of_getElem? (i := 88) (by decide +kernel), List.mem_of_getElem? (i := 301) (by decide +kernel), List.mem_of_getElem? (i := 302) (by decide +kernel)⟩
theorem lw_p5 : lw_okq (⟨"QuotedLayers", "lengthOfLone", "(I)I"⟩, 9) := ⟨⟨by decide +kernel, by decide +kernel⟩, List.mem_of_getElem? (i := 10) (by decide +kernel), List.mem_of_getElem? (i := 319) (by decide +kernel), List.mem_of_getElem? (i := 320) (by decide +kernel)⟩
theorem lw_p6 : lw_okq (⟨"QuotedLayers$Layer", "endsAt", "(LQuotedLayers$Row;I)Z"⟩, 4) := ⟨⟨by decide +kernel, by decide +kernel⟩, List.mem_of_getElem? (i := 42) (by decide +kernel), List.mem_of_getElem? (i := 347) (by decide +kernel), List.mem_of_getElem? (i := 348) (by decide +kernel)⟩
theorem lw_p7 : lw_okq (⟨"QuotedLayers$Layer", "meantAt", "(LQuotedLayers$Row;I)I"⟩, 4) := ⟨⟨by decide +kernel, by decide +kernel⟩, List.mem_of_getElem? (i := 42) (by decide +kernel), List.mem_of_getElem? (i := 351) (by decide +kernel), List.mem_of_getElem? (i := 352) (by decide +kernel)⟩
theorem lw_p8 : lw_okq (⟨"QuotedLayers$Layer", "widthOf", "(I)I"⟩, 4) := ⟨⟨by decide +kernel, by decide +kernel⟩, List.mem_of_getElem? (i := 42) (by decide +kernel), List.mem_of_getElem? (i := 357) (by decide +kernel), List.mem_of_getElem? (i := 358) (by decide +kernel)⟩
theorem lw_p9 : lw_okq (⟨"QuotedLayers", "isPlace", "(I)Z"⟩, 9) := ⟨⟨by decide +kernel, by decide +kernel⟩, List.mem_of_getElem? (i := 10) (by decide +kernel), List.mem_of_getElem? (i := 369) (by decide +kernel), List.mem_of_getElem? (i := 370) (by decide +kernel)⟩
theorem lw_p10 : lw_okq (⟨"QuotedLayers", "outcome", "(LQuotedLayers$Row;LQuotedLayers$Row;I)I"⟩, 9) := ⟨⟨by decide +kernel, by decide +kernel⟩, List.mem_of_getElem? (i := 10) (by decide +kernel), List.mem_of_getElem? (i := 373) (by decide +kernel), List.mem_of_getElem? (i := 374) (by decide +kernel)⟩
theorem lw_p11 : lw_okq (⟨"QuotedLayers", "padIsSpillRow", "()Z"⟩, 9) := ⟨⟨by decide +kernel, by decide +kernel⟩, List.mem_of_getElem? (i := 10) (by decide +kernel), List.mem_of_getElem? (i := 385) (by decide +kernel), List.mem_of_getElem? (i := 386) (by decide +kernel)⟩
theorem lw_p12 : lw_okq (⟨"QuotedLayers", "findShortestSpill", "(I)Z"⟩, 9) := ⟨⟨by decide +kernel, by decide +kernel⟩, List.mem_of_getElem? (i := 10) (by decide +kernel), List.mem_of_getElem? (i := 390) (by decide +kernel), List.mem_of_getElem? (i := 391) (by decide +kernel)⟩
theorem lw_p13 : lw_okq (⟨"QuotedLayers", "spellTrial", "()V"⟩, 9) := ⟨⟨by decide +kernel, by decide +kernel⟩, List.mem_of_getElem? (i := 10) (by decide +kernel), List.mem_of_getElem? (i := 398) (by decide +kernel), List.mem_of_getElem? (i := 399) (by decide +kernel)⟩
theorem lw_p14 : lw_okq (⟨"QuotedLayers", "readsPadWholly", "(LQuotedLayers$Row;)Z"⟩, 9) := ⟨⟨by decide +kernel, by decide +kernel⟩, List.mem_of_getElem? (i := 10) (by decide +kernel), List.mem_of_getElem? (i := 419) (by decide +kernel), List.mem_of_getElem? (i := 420) (by decide +kernel)⟩
theorem lw_p15 : lw_okq (⟨"QuotedLayers", "findShortestOrder", "()I"⟩, 9) := ⟨⟨by decide +kernel, by decide +kernel⟩, List.mem_of_getElem? (i := 10) (by decide +kernel), List.mem_of_getElem? (i := 434) (by decide +kernel), List.mem_of_getElem? (i := 435) (by decide +kernel)⟩
def lw_privs_1 : List (MethodName × Nat) := [(⟨"QuotedLayers$Passage", "there", "()LQuotedLayers$Row;"⟩, 5), (⟨"QuotedLayers$Layer", "addMark", "(LQuotedLayers$Row;)V"⟩, 4), (⟨"QuotedLayers$Layer", "meansSomething", "(I)Z"⟩, 4), (⟨"QuotedLayers$Layer", "putMasked", "(ILQuotedLayers$Row;)V"⟩, 4), (⟨"QuotedLayers$Passage", "step", "()V"⟩, 5), (⟨"QuotedLayers", "lengthOfLone", "(I)I"⟩, 9), (⟨"QuotedLayers$Layer", "endsAt", "(LQuotedLayers$Row;I)Z"⟩, 4), (⟨"QuotedLayers$Layer", "meantAt", "(LQuotedLayers$Row;I)I"⟩, 4), (⟨"QuotedLayers$Layer", "widthOf", "(I)I"⟩, 4), (⟨"QuotedLayers", "isPlace", "(I)Z"⟩, 9), (⟨"QuotedLayers", "outcome", "(LQuotedLayers$Row;LQuotedLayers$Row;I)I"⟩, 9), (⟨"QuotedLayers", "padIsSpillRow", "()Z"⟩, 9), (⟨"QuotedLayers", "findShortestSpill", "(I)Z"⟩, 9), (⟨"QuotedLayers", "spellTrial", "()V"⟩, 9), (⟨"QuotedLayers", "readsPadWholly", "(LQuotedLayers$Row;)Z"⟩, 9), (⟨"QuotedLayers", "findShortestOrder", "()I"⟩, 9)]
theorem lw_r1 : ∀ q ∈ lw_privs_1, lw_okq q := List.forall_mem_cons.mpr ⟨lw_p0, List.forall_mem_cons.mpr ⟨lw_p1, List.forall_mem_cons.mpr ⟨lw_p2, List.forall_mem_cons.mpr ⟨lw_p3, List.forall_mem_cons.mpr ⟨lw_p4, List.forall_mem_cons.mpr ⟨lw_p5, List.forall_mem_cons.mpr ⟨lw_p6, List.forall_mem_cons.mpr ⟨lw_p7, List.forall_mem_cons.mpr ⟨lw_p8, List.forall_mem_cons.mpr ⟨lw_p9, List.forall_mem_cons.mpr ⟨lw_p10, List.forall_mem_cons.mpr ⟨lw_p11, List.forall_mem_cons.mpr ⟨lw_p12, List.forall_mem_cons.mpr ⟨lw_p13, List.forall_mem_cons.mpr ⟨lw_p14, List.forall_mem_cons.mpr ⟨lw_p15, fun _ h => absurd h List.not_mem_nil⟩⟩⟩⟩⟩⟩⟩⟩⟩⟩⟩⟩⟩⟩⟩⟩
theorem lw_p16 : lw_okq (⟨"QuotedLayers", "lengthInOrder", "(LQuotedLayers$Row;)I"⟩, 9) := ⟨⟨by decide +kernel, by decide +kernel⟩, List.mem_of_getElem? (i := 10) (by decide +kernel), List.mem_of_getElem? (i := 438) (by decide +kernel), List.mem_of_getElem? (i := 439) (by decide +kernel)⟩
theorem lw_p17 : lw_okq (⟨"QuotedLayers", "imageAt", "(I)LQuotedLayers$Stand;"⟩, 9) := ⟨⟨by decide +kernel, by decide +kernel⟩, List.mem_of_getElem? (i := 10) (by decide +kernel), List.mem_of_getElem? (i := 460) (by decide +kernel), List.mem_of_getElem? (i := 461) (by decide +kernel)⟩
theorem lw_p18 : lw_okq (⟨"QuotedLayersModel", "faultOf", "()I"⟩, 22) := ⟨⟨by decide +kernel, by decide +kernel⟩, List.mem_of_getElem? (i := 483) (by decide +kernel), List.mem_of_getElem? (i := 572) (by decide +kernel), List.mem_of_getElem? (i := 573) (by decide +kernel)⟩
theorem lw_p19 : lw_okq (⟨"QuotedLayersModel", "isNew", "(I)Z"⟩, 22) := ⟨⟨by decide +kernel, by decide +kernel⟩, List.mem_of_getElem? (i := 483) (by decide +kernel), List.mem_of_getElem? (i := 576) (by decide +kernel), List.mem_of_getElem? (i := 577) (by decide +kernel)⟩
theorem lw_p20 : lw_okq (⟨"QuotedLayersModel", "layText", "()V"⟩, 22) := ⟨⟨by decide +kernel, by decide +kernel⟩, List.mem_of_getElem? (i := 483) (by decide +kernel), List.mem_of_getElem? (i := 610) (by decide +kernel), List.mem_of_getElem? (i := 611) (by decide +kernel)⟩
theorem lw_p21 : lw_okq (⟨"QuotedLayersModel", "goThrough", "(II)I"⟩, 22) := ⟨⟨by decide +kernel, by decide +kernel⟩, List.mem_of_getElem? (i := 483) (by decide +kernel), List.mem_of_getElem? (i := 614) (by decide +kernel), List.mem_of_getElem? (i := 615) (by decide +kernel)⟩
theorem lw_p22 : lw_okq (⟨"QuotedLayersModel", "put", "(IZ)I"⟩, 22) := ⟨⟨by decide +kernel, by decide +kernel⟩, List.mem_of_getElem? (i := 483) (by decide +kernel), List.mem_of_getElem? (i := 618) (by decide +kernel), List.mem_of_getElem? (i := 619) (by decide +kernel)⟩
theorem lw_p23 : lw_okq (⟨"QuotedLayersModel", "hasMark", "(I)Z"⟩, 22) := ⟨⟨by decide +kernel, by decide +kernel⟩, List.mem_of_getElem? (i := 483) (by decide +kernel), List.mem_of_getElem? (i := 622) (by decide +kernel), List.mem_of_getElem? (i := 623) (by decide +kernel)⟩
theorem lw_p24 : lw_okq (⟨"QuotedLayersModel", "isMasked", "(II)Z"⟩, 22) := ⟨⟨by decide +kernel, by decide +kernel⟩, List.mem_of_getElem? (i := 483) (by decide +kernel), List.mem_of_getElem? (i := 626) (by decide +kernel), List.mem_of_getElem? (i := 627) (by decide +kernel)⟩
theorem lw_p25 : lw_okq (⟨"QuotedLayersModel", "isHeld", "(II)Z"⟩, 22) := ⟨⟨by decide +kernel, by decide +kernel⟩, List.mem_of_getElem? (i := 483) (by decide +kernel), List.mem_of_getElem? (i := 630) (by decide +kernel), List.mem_of_getElem? (i := 631) (by decide +kernel)⟩
theorem lw_p26 : lw_okq (⟨"QuotedLayersModel", "growsOf", "(I)I"⟩, 22) := ⟨⟨by decide +kernel, by decide +kernel⟩, List.mem_of_getElem? (i := 483) (by decide +kernel), List.mem_of_getElem? (i := 645) (by decide +kernel), List.mem_of_getElem? (i := 646) (by decide +kernel)⟩
theorem lw_p27 : lw_okq (⟨"QuotedLayersModel", "lengthOf", "(I)I"⟩, 22) := ⟨⟨by decide +kernel, by decide +kernel⟩, List.mem_of_getElem? (i := 483) (by decide +kernel), List.mem_of_getElem? (i := 649) (by decide +kernel), List.mem_of_getElem? (i := 650) (by decide +kernel)⟩
theorem lw_p28 : lw_okq (⟨"QuotedLayersModel", "layPad", "()V"⟩, 22) := ⟨⟨by decide +kernel, by decide +kernel⟩, List.mem_of_getElem? (i := 483) (by decide +kernel), List.mem_of_getElem? (i := 665) (by decide +kernel), List.mem_of_getElem? (i := 666) (by decide +kernel)⟩
theorem lw_p29 : lw_okq (⟨"QuotedLayersModel", "readBack", "()I"⟩, 22) := ⟨⟨by decide +kernel, by decide +kernel⟩, List.mem_of_getElem? (i := 483) (by decide +kernel), List.mem_of_getElem? (i := 669) (by decide +kernel), List.mem_of_getElem? (i := 670) (by decide +kernel)⟩
theorem lw_p30 : lw_okq (⟨"QuotedLayersModel", "readBy", "(I)I"⟩, 22) := ⟨⟨by decide +kernel, by decide +kernel⟩, List.mem_of_getElem? (i := 483) (by decide +kernel), List.mem_of_getElem? (i := 673) (by decide +kernel), List.mem_of_getElem? (i := 674) (by decide +kernel)⟩
theorem lw_p31 : lw_okq (⟨"QuotedLayersModel", "codeAt", "(I)I"⟩, 22) := ⟨⟨by decide +kernel, by decide +kernel⟩, List.mem_of_getElem? (i := 483) (by decide +kernel), List.mem_of_getElem? (i := 677) (by decide +kernel), List.mem_of_getElem? (i := 678) (by decide +kernel)⟩
def lw_privs_2 : List (MethodName × Nat) := [(⟨"QuotedLayers", "lengthInOrder", "(LQuotedLayers$Row;)I"⟩, 9), (⟨"QuotedLayers", "imageAt", "(I)LQuotedLayers$Stand;"⟩, 9), (⟨"QuotedLayersModel", "faultOf", "()I"⟩, 22), (⟨"QuotedLayersModel", "isNew", "(I)Z"⟩, 22), (⟨"QuotedLayersModel", "layText", "()V"⟩, 22), (⟨"QuotedLayersModel", "goThrough", "(II)I"⟩, 22), (⟨"QuotedLayersModel", "put", "(IZ)I"⟩, 22), (⟨"QuotedLayersModel", "hasMark", "(I)Z"⟩, 22), (⟨"QuotedLayersModel", "isMasked", "(II)Z"⟩, 22), (⟨"QuotedLayersModel", "isHeld", "(II)Z"⟩, 22), (⟨"QuotedLayersModel", "growsOf", "(I)I"⟩, 22), (⟨"QuotedLayersModel", "lengthOf", "(I)I"⟩, 22), (⟨"QuotedLayersModel", "layPad", "()V"⟩, 22), (⟨"QuotedLayersModel", "readBack", "()I"⟩, 22), (⟨"QuotedLayersModel", "readBy", "(I)I"⟩, 22), (⟨"QuotedLayersModel", "codeAt", "(I)I"⟩, 22)]
theorem lw_r2 : ∀ q ∈ lw_privs_2, lw_okq q := List.forall_mem_cons.mpr ⟨lw_p16, List.forall_mem_cons.mpr ⟨lw_p17, List.forall_mem_cons.mpr ⟨lw_p18, List.forall_mem_cons.mpr ⟨lw_p19, List.forall_mem_cons.mpr ⟨lw_p20, List.forall_mem_cons.mpr ⟨lw_p21, List.forall_mem_cons.mpr ⟨lw_p22, List.forall_mem_cons.mpr ⟨lw_p23, List.forall_mem_cons.mpr ⟨lw_p24, List.forall_mem_cons.mpr ⟨lw_p25, List.forall_mem_cons.mpr ⟨lw_p26, List.forall_mem_cons.mpr ⟨lw_p27, List.forall_mem_cons.mpr ⟨lw_p28, List.forall_mem_cons.mpr ⟨lw_p29, List.forall_mem_cons.mpr ⟨lw_p30, List.forall_mem_cons.mpr ⟨lw_p31, fun _ h => absurd h List.not_mem_nil⟩⟩⟩⟩⟩⟩⟩⟩⟩⟩⟩⟩⟩⟩⟩⟩
theorem lw_p32 : lw_okq (⟨"QuotedLayersModel", "keepText", "()V"⟩, 22) := ⟨⟨by decide +kernel, by decide +kernel⟩, List.mem_of_getElem? (i := 483) (by decide +kernel), List.mem_of_getElem? (i := 688) (by decide +kernel), List.mem_of_getElem? (i := 689) (by decide +kernel)⟩
theorem lw_p33 : lw_okq (⟨"QuotedLayersModel", "howBack", "()I"⟩, 22) := ⟨⟨by decide +kernel, by decide +kernel⟩, List.mem_of_getElem? (i := 483) (by decide +kernel), List.mem_of_getElem? (i := 692) (by decide +kernel), List.mem_of_getElem? (i := 693) (by decide +kernel)⟩
theorem lw_p34 : lw_okq (⟨"QuotedLayersModel", "isRow", "()Z"⟩, 22) := ⟨⟨by decide +kernel, by decide +kernel⟩, List.mem_of_getElem? (i := 483) (by decide +kernel), List.mem_of_getElem? (i := 700) (by decide +kernel), List.mem_of_getElem? (i := 701) (by decide +kernel)⟩
theorem lw_p35 : lw_okq (⟨"QuotedLayersModel", "isAsAtFirst", "(I)Z"⟩, 22) := ⟨⟨by decide +kernel, by decide +kernel⟩, List.mem_of_getElem? (i := 483) (by decide +kernel), List.mem_of_getElem? (i := 712) (by decide +kernel), List.mem_of_getElem? (i := 713) (by decide +kernel)⟩
theorem lw_p36 : lw_okq (⟨"QuotedLayersModel", "fitsRow", "(III)Z"⟩, 22) := ⟨⟨by decide +kernel, by decide +kernel⟩, List.mem_of_getElem? (i := 483) (by decide +kernel), List.mem_of_getElem? (i := 716) (by decide +kernel), List.mem_of_getElem? (i := 717) (by decide +kernel)⟩
theorem lw_p37 : lw_okq (⟨"QuotedLayersModel", "nextOrder", "()Z"⟩, 22) := ⟨⟨by decide +kernel, by decide +kernel⟩, List.mem_of_getElem? (i := 483) (by decide +kernel), List.mem_of_getElem? (i := 724) (by decide +kernel), List.mem_of_getElem? (i := 725) (by decide +kernel)⟩
def lw_privs_3 : List (MethodName × Nat) := [(⟨"QuotedLayersModel", "keepText", "()V"⟩, 22), (⟨"QuotedLayersModel", "howBack", "()I"⟩, 22), (⟨"QuotedLayersModel", "isRow", "()Z"⟩, 22), (⟨"QuotedLayersModel", "isAsAtFirst", "(I)Z"⟩, 22), (⟨"QuotedLayersModel", "fitsRow", "(III)Z"⟩, 22), (⟨"QuotedLayersModel", "nextOrder", "()Z"⟩, 22)]
theorem lw_r3 : ∀ q ∈ lw_privs_3, lw_okq q := List.forall_mem_cons.mpr ⟨lw_p32, List.forall_mem_cons.mpr ⟨lw_p33, List.forall_mem_cons.mpr ⟨lw_p34, List.forall_mem_cons.mpr ⟨lw_p35, List.forall_mem_cons.mpr ⟨lw_p36, List.forall_mem_cons.mpr ⟨lw_p37, fun _ h => absurd h List.not_mem_nil⟩⟩⟩⟩⟩⟩
def lw_privs : List (MethodName × Nat) := lw_privs_1 ++ (lw_privs_2 ++ (lw_privs_3))
def lw_tbl : List Cond := k2_sels lw_privs ++ tables_1
theorem lw_privs_ok : ∀ q ∈ lw_privs, lw_okq q := by
  show ∀ q ∈ lw_privs_1 ++ (lw_privs_2 ++ (lw_privs_3)), lw_okq q
  exact List.forall_mem_append.mpr ⟨lw_r1, List.forall_mem_append.mpr ⟨lw_r2, lw_r3⟩⟩
def RX0 : String := "QuotedLayers$Counting"
def TX0 : u_T := fun k => match k with
  | _ => ("", "", "", false)
def tyX0 : Nat → FieldType := fun k => match k with
  | _ => .int
abbrev wsX00 : List Cond := u_ws RX0 TX0 0
theorem nmX0 : ∀ a, a < 0 → ∀ b, b < 0 → a ≠ b → (TX0 a).2.1 ≠ (TX0 b).2.1 := by decide +kernel
theorem tyX0_ok : ∀ k, k < 0 → parseFieldDescriptor (TX0 k).2.2.1 = some (tyX0 k) := by decide +kernel
abbrev cX0_nextDigits : ByteArray := prog_2_method_2_code
def yX0_nextDigits : MethodName := ⟨RX0, "nextDigits", "(LQuotedLayers$Row;I)Z"⟩
abbrev cX0_nextOrder : ByteArray := prog_2_method_3_code
def yX0_nextOrder : MethodName := ⟨RX0, "nextOrder", "(LQuotedLayers$Row;)Z"⟩
abbrev cX0_reverseFrom : ByteArray := prog_2_method_4_code
def yX0_reverseFrom : MethodName := ⟨RX0, "reverseFrom", "(LQuotedLayers$Row;I)V"⟩
def RX1 : String := "QuotedLayers$Layer"
def TX1 : u_T := fun k => match k with
  | 0 => ("QuotedLayers$Layer", "mark", "I", false)
  | 1 => ("QuotedLayers$Layer", "way", "I", false)
  | 2 => ("QuotedLayers$Layer", "mask", "I", false)
  | _ => ("QuotedLayers$Layer", "held", "LQuotedLayers$Row;", true)
def tyX1 : Nat → FieldType := fun k => match k with
  | 0 => .int
  | 1 => .int
  | 2 => .int
  | _ => .object "QuotedLayers$Row"
abbrev wsX10 : List Cond := u_ws RX1 TX1 4
theorem nmX1 : ∀ a, a < 4 → ∀ b, b < 4 → a ≠ b → (TX1 a).2.1 ≠ (TX1 b).2.1 := by decide +kernel
theorem tyX1_ok : ∀ k, k < 4 → parseFieldDescriptor (TX1 k).2.2.1 = some (tyX1 k) := by decide +kernel
abbrev cX1_init : ByteArray := prog_3_method_1_code
def yX1_init : MethodName := ⟨RX1, "<init>", "()V"⟩
abbrev cX1_hasMask : ByteArray := prog_3_method_2_code
def yX1_hasMask : MethodName := ⟨RX1, "hasMask", "(I)Z"⟩
abbrev cX1_become : ByteArray := prog_3_method_3_code
def yX1_become : MethodName := ⟨RX1, "become", "(LQuotedLayers$Row;)V"⟩
abbrev cX1_copyFrom : ByteArray := prog_3_method_4_code
def yX1_copyFrom : MethodName := ⟨RX1, "copyFrom", "(LQuotedLayers$Layer;)V"⟩
abbrev cX1_heldCount : ByteArray := prog_3_method_5_code
def yX1_heldCount : MethodName := ⟨RX1, "heldCount", "()I"⟩
abbrev cX1_part : ByteArray := prog_3_method_6_code
def yX1_part : MethodName := ⟨RX1, "part", "(I)I"⟩
abbrev cX1_isAsAtFirst : ByteArray := prog_3_method_7_code
def yX1_isAsAtFirst : MethodName := ⟨RX1, "isAsAtFirst", "()Z"⟩
abbrev cX1_put : ByteArray := prog_3_method_8_code
def yX1_put : MethodName := ⟨RX1, "put", "(LQuotedLayers$Row;LQuotedLayers$Row;Z)I"⟩
abbrev cX1_meansSomething : ByteArray := prog_3_method_9_code
def yX1_meansSomething : MethodName := ⟨RX1, "meansSomething", "(I)Z"⟩
abbrev cX1_addMark : ByteArray := prog_3_method_10_code
def yX1_addMark : MethodName := ⟨RX1, "addMark", "(LQuotedLayers$Row;)V"⟩
abbrev cX1_putMasked : ByteArray := prog_3_method_11_code
def yX1_putMasked : MethodName := ⟨RX1, "putMasked", "(ILQuotedLayers$Row;)V"⟩
abbrev cX1_takeOff : ByteArray := prog_3_method_12_code
def yX1_takeOff : MethodName := ⟨RX1, "takeOff", "(LQuotedLayers$Row;LQuotedLayers$Row;)I"⟩
abbrev cX1_endsAt : ByteArray := prog_3_method_13_code
def yX1_endsAt : MethodName := ⟨RX1, "endsAt", "(LQuotedLayers$Row;I)Z"⟩
abbrev cX1_meantAt : ByteArray := prog_3_method_14_code
def yX1_meantAt : MethodName := ⟨RX1, "meantAt", "(LQuotedLayers$Row;I)I"⟩
abbrev cX1_widthOf : ByteArray := prog_3_method_15_code
def yX1_widthOf : MethodName := ⟨RX1, "widthOf", "(I)I"⟩
abbrev cX1_digitOf : ByteArray := prog_3_method_16_code
def yX1_digitOf : MethodName := ⟨RX1, "digitOf", "(I)I"⟩
abbrev cX1_valueOfDigit : ByteArray := prog_3_method_17_code
def yX1_valueOfDigit : MethodName := ⟨RX1, "valueOfDigit", "(I)I"⟩
def RX2 : String := "QuotedLayers$LayerText"
def TX2 : u_T := fun k => match k with
  | _ => ("", "", "", false)
def tyX2 : Nat → FieldType := fun k => match k with
  | _ => .int
abbrev wsX20 : List Cond := u_ws RX2 TX2 0
theorem nmX2 : ∀ a, a < 0 → ∀ b, b < 0 → a ≠ b → (TX2 a).2.1 ≠ (TX2 b).2.1 := by decide +kernel
theorem tyX2_ok : ∀ k, k < 0 → parseFieldDescriptor (TX2 k).2.2.1 = some (tyX2 k) := by decide +kernel
abbrev cX2_faultIn : ByteArray := prog_4_method_2_code
def yX2_faultIn : MethodName := ⟨RX2, "faultIn", "(LQuotedLayers$Row;)I"⟩
abbrev cX2_firstHeld : ByteArray := prog_4_method_3_code
def yX2_firstHeld : MethodName := ⟨RX2, "firstHeld", "(I)I"⟩
abbrev cX2_canBeMark : ByteArray := prog_4_method_4_code
def yX2_canBeMark : MethodName := ⟨RX2, "canBeMark", "(I)Z"⟩
abbrev cX2_canBeWay : ByteArray := prog_4_method_5_code
def yX2_canBeWay : MethodName := ⟨RX2, "canBeWay", "(II)Z"⟩
abbrev cX2_isNewSign : ByteArray := prog_4_method_6_code
def yX2_isNewSign : MethodName := ⟨RX2, "isNewSign", "(LQuotedLayers$Row;I)Z"⟩
def RX3 : String := "QuotedLayers$Passage"
def TX3 : u_T := fun k => match k with
  | 0 => ("QuotedLayers$Passage", "first", "LQuotedLayers$Row;", true)
  | 1 => ("QuotedLayers$Passage", "second", "LQuotedLayers$Row;", true)
  | 2 => ("QuotedLayers$Passage", "isInSecond", "Z", false)
  | 3 => ("QuotedLayers$Passage", "barringPlace", "I", false)
  | _ => ("QuotedLayers$Passage", "badSign", "I", false)
def tyX3 : Nat → FieldType := fun k => match k with
  | 0 => .object "QuotedLayers$Row"
  | 1 => .object "QuotedLayers$Row"
  | 2 => .boolean
  | 3 => .int
  | _ => .int
abbrev wsX30 : List Cond := u_ws RX3 TX3 5
theorem nmX3 : ∀ a, a < 5 → ∀ b, b < 5 → a ≠ b → (TX3 a).2.1 ≠ (TX3 b).2.1 := by decide +kernel
theorem tyX3_ok : ∀ k, k < 5 → parseFieldDescriptor (TX3 k).2.2.1 = some (tyX3 k) := by decide +kernel
abbrev cX3_init : ByteArray := prog_5_method_1_code
def yX3_init : MethodName := ⟨RX3, "<init>", "()V"⟩
abbrev cX3_here : ByteArray := prog_5_method_2_code
def yX3_here : MethodName := ⟨RX3, "here", "()LQuotedLayers$Row;"⟩
abbrev cX3_there : ByteArray := prog_5_method_3_code
def yX3_there : MethodName := ⟨RX3, "there", "()LQuotedLayers$Row;"⟩
abbrev cX3_step : ByteArray := prog_5_method_4_code
def yX3_step : MethodName := ⟨RX3, "step", "()V"⟩
abbrev cX3_barringPlace : ByteArray := prog_5_method_5_code
def yX3_barringPlace : MethodName := ⟨RX3, "barringPlace", "()I"⟩
abbrev cX3_badSign : ByteArray := prog_5_method_6_code
def yX3_badSign : MethodName := ⟨RX3, "badSign", "()I"⟩
abbrev cX3_begin : ByteArray := prog_5_method_7_code
def yX3_begin : MethodName := ⟨RX3, "begin", "(LQuotedLayers$Row;)V"⟩
abbrev cX3_putThrough : ByteArray := prog_5_method_8_code
def yX3_putThrough : MethodName := ⟨RX3, "putThrough", "(LQuotedLayers$Stand;LQuotedLayers$Row;LQuotedLayers$Row;I)I"⟩
abbrev cX3_readBack : ByteArray := prog_5_method_9_code
def yX3_readBack : MethodName := ⟨RX3, "readBack", "(LQuotedLayers$Stand;LQuotedLayers$Row;)I"⟩
def RX4 : String := "QuotedLayers$Row"
def TX4 : u_T := fun k => match k with
  | 0 => ("QuotedLayers$Row", "numbers", "[I", true)
  | 1 => ("QuotedLayers$Row", "count", "I", false)
  | _ => ("QuotedLayers$Row", "over", "Z", false)
def tyX4 : Nat → FieldType := fun k => match k with
  | 0 => .array .int
  | 1 => .int
  | _ => .boolean
abbrev wsX40 : List Cond := u_ws RX4 TX4 3
theorem nmX4 : ∀ a, a < 3 → ∀ b, b < 3 → a ≠ b → (TX4 a).2.1 ≠ (TX4 b).2.1 := by decide +kernel
theorem tyX4_ok : ∀ k, k < 3 → parseFieldDescriptor (TX4 k).2.2.1 = some (tyX4 k) := by decide +kernel
abbrev cX4_init : ByteArray := prog_6_method_1_code
def yX4_init : MethodName := ⟨RX4, "<init>", "(I)V"⟩
abbrev cX4_size : ByteArray := prog_6_method_2_code
def yX4_size : MethodName := ⟨RX4, "size", "()I"⟩
abbrev cX4_at : ByteArray := prog_6_method_3_code
def yX4_at : MethodName := ⟨RX4, "at", "(I)I"⟩
abbrev cX4_set : ByteArray := prog_6_method_4_code
def yX4_set : MethodName := ⟨RX4, "set", "(II)V"⟩
abbrev cX4_add : ByteArray := prog_6_method_5_code
def yX4_add : MethodName := ⟨RX4, "add", "(I)V"⟩
abbrev cX4_isOver : ByteArray := prog_6_method_6_code
def yX4_isOver : MethodName := ⟨RX4, "isOver", "()Z"⟩
abbrev cX4_dropLast : ByteArray := prog_6_method_7_code
def yX4_dropLast : MethodName := ⟨RX4, "dropLast", "()V"⟩
abbrev cX4_clear : ByteArray := prog_6_method_8_code
def yX4_clear : MethodName := ⟨RX4, "clear", "()V"⟩
abbrev cX4_copyFrom : ByteArray := prog_6_method_9_code
def yX4_copyFrom : MethodName := ⟨RX4, "copyFrom", "(LQuotedLayers$Row;)V"⟩
abbrev cX4_copyFirst : ByteArray := prog_6_method_10_code
def yX4_copyFirst : MethodName := ⟨RX4, "copyFirst", "(LQuotedLayers$Row;I)V"⟩
abbrev cX4_fillZeros : ByteArray := prog_6_method_11_code
def yX4_fillZeros : MethodName := ⟨RX4, "fillZeros", "(I)Z"⟩
abbrev cX4_sameAs : ByteArray := prog_6_method_12_code
def yX4_sameAs : MethodName := ⟨RX4, "sameAs", "(LQuotedLayers$Row;)Z"⟩
abbrev cX4_hasAhead : ByteArray := prog_6_method_13_code
def yX4_hasAhead : MethodName := ⟨RX4, "hasAhead", "(II)Z"⟩
abbrev cX4_swap : ByteArray := prog_6_method_14_code
def yX4_swap : MethodName := ⟨RX4, "swap", "(II)V"⟩
def RX5 : String := "QuotedLayers$Stand"
def TX5 : u_T := fun k => match k with
  | 0 => ("QuotedLayers$Stand", "layers", "[LQuotedLayers$Layer;", true)
  | 1 => ("QuotedLayers$Stand", "asAtFirst", "LQuotedLayers$Layer;", true)
  | 2 => ("QuotedLayers$Stand", "chainLayers", "LQuotedLayers$Row;", true)
  | 3 => ("QuotedLayers$Stand", "textSigns", "LQuotedLayers$Row;", true)
  | _ => ("QuotedLayers$Stand", "kept", "Z", false)
def tyX5 : Nat → FieldType := fun k => match k with
  | 0 => .array (.object "QuotedLayers$Layer")
  | 1 => .object "QuotedLayers$Layer"
  | 2 => .object "QuotedLayers$Row"
  | 3 => .object "QuotedLayers$Row"
  | _ => .boolean
abbrev wsX50 : List Cond := u_ws RX5 TX5 5
theorem nmX5 : ∀ a, a < 5 → ∀ b, b < 5 → a ≠ b → (TX5 a).2.1 ≠ (TX5 b).2.1 := by decide +kernel
theorem tyX5_ok : ∀ k, k < 5 → parseFieldDescriptor (TX5 k).2.2.1 = some (tyX5 k) := by decide +kernel
abbrev cX5_init : ByteArray := prog_7_method_1_code
def yX5_init : MethodName := ⟨RX5, "<init>", "()V"⟩
abbrev cX5_layerAt : ByteArray := prog_7_method_2_code
def yX5_layerAt : MethodName := ⟨RX5, "layerAt", "(I)LQuotedLayers$Layer;"⟩
abbrev cX5_copyFrom : ByteArray := prog_7_method_3_code
def yX5_copyFrom : MethodName := ⟨RX5, "copyFrom", "(LQuotedLayers$Stand;)V"⟩
def RX6 : String := "QuotedLayers"
def TX6 : u_T := fun k => match k with
  | 0 => ("QuotedLayers", "pad", "LQuotedLayers$Row;", true)
  | 1 => ("QuotedLayers", "stand", "LQuotedLayers$Stand;", true)
  | 2 => ("QuotedLayers", "firstImage", "LQuotedLayers$Stand;", true)
  | 3 => ("QuotedLayers", "secondImage", "LQuotedLayers$Stand;", true)
  | 4 => ("QuotedLayers", "passage", "LQuotedLayers$Passage;", true)
  | 5 => ("QuotedLayers", "trial", "LQuotedLayers$Row;", true)
  | 6 => ("QuotedLayers", "line", "LQuotedLayers$Row;", true)
  | 7 => ("QuotedLayers", "digits", "LQuotedLayers$Row;", true)
  | _ => ("QuotedLayers", "shortestPlaces", "LQuotedLayers$Row;", true)
def tyX6 : Nat → FieldType := fun k => match k with
  | 0 => .object "QuotedLayers$Row"
  | 1 => .object "QuotedLayers$Stand"
  | 2 => .object "QuotedLayers$Stand"
  | 3 => .object "QuotedLayers$Stand"
  | 4 => .object "QuotedLayers$Passage"
  | 5 => .object "QuotedLayers$Row"
  | 6 => .object "QuotedLayers$Row"
  | 7 => .object "QuotedLayers$Row"
  | _ => .object "QuotedLayers$Row"
abbrev wsX60 : List Cond := u_ws RX6 TX6 9
theorem nmX6 : ∀ a, a < 9 → ∀ b, b < 9 → a ≠ b → (TX6 a).2.1 ≠ (TX6 b).2.1 := by decide +kernel
theorem tyX6_ok : ∀ k, k < 9 → parseFieldDescriptor (TX6 k).2.2.1 = some (tyX6 k) := by decide +kernel
abbrev cX6_init : ByteArray := prog_1_method_1_code
def yX6_init : MethodName := ⟨RX6, "<init>", "()V"⟩
abbrev cX6_say : ByteArray := prog_1_method_2_code
def yX6_say : MethodName := ⟨RX6, "say", "(I)I"⟩
abbrev cX6_wipe : ByteArray := prog_1_method_3_code
def yX6_wipe : MethodName := ⟨RX6, "wipe", "()I"⟩
abbrev cX6_fault : ByteArray := prog_1_method_4_code
def yX6_fault : MethodName := ⟨RX6, "fault", "()I"⟩
abbrev cX6_layer : ByteArray := prog_1_method_5_code
def yX6_layer : MethodName := ⟨RX6, "layer", "(I)I"⟩
abbrev cX6_about : ByteArray := prog_1_method_6_code
def yX6_about : MethodName := ⟨RX6, "about", "(II)I"⟩
abbrev cX6_chain : ByteArray := prog_1_method_7_code
def yX6_chain : MethodName := ⟨RX6, "chain", "(I)I"⟩
abbrev cX6_unchain : ByteArray := prog_1_method_8_code
def yX6_unchain : MethodName := ⟨RX6, "unchain", "()I"⟩
abbrev cX6_text : ByteArray := prog_1_method_9_code
def yX6_text : MethodName := ⟨RX6, "text", "()I"⟩
abbrev cX6_behind : ByteArray := prog_1_method_10_code
def yX6_behind : MethodName := ⟨RX6, "behind", "(II)I"⟩
abbrev cX6_barred : ByteArray := prog_1_method_11_code
def yX6_barred : MethodName := ⟨RX6, "barred", "()I"⟩
abbrev cX6_grows : ByteArray := prog_1_method_12_code
def yX6_grows : MethodName := ⟨RX6, "grows", "(I)I"⟩
abbrev cX6_safe : ByteArray := prog_1_method_13_code
def yX6_safe : MethodName := ⟨RX6, "safe", "(I)I"⟩
abbrev cX6_dearest : ByteArray := prog_1_method_14_code
def yX6_dearest : MethodName := ⟨RX6, "dearest", "()I"⟩
abbrev cX6_read : ByteArray := prog_1_method_15_code
def yX6_read : MethodName := ⟨RX6, "read", "(I)I"⟩
abbrev cX6_spills : ByteArray := prog_1_method_16_code
def yX6_spills : MethodName := ⟨RX6, "spills", "(I)I"⟩
abbrev cX6_spill : ByteArray := prog_1_method_17_code
def yX6_spill : MethodName := ⟨RX6, "spill", "(II)I"⟩
abbrev cX6_twice : ByteArray := prog_1_method_18_code
def yX6_twice : MethodName := ⟨RX6, "twice", "(I)I"⟩
abbrev cX6_rows : ByteArray := prog_1_method_19_code
def yX6_rows : MethodName := ⟨RX6, "rows", "(I)I"⟩
abbrev cX6_order : ByteArray := prog_1_method_20_code
def yX6_order : MethodName := ⟨RX6, "order", "(I)I"⟩
abbrev cX6_image : ByteArray := prog_1_method_21_code
def yX6_image : MethodName := ⟨RX6, "image", "(I)I"⟩
abbrev cX6_restore : ByteArray := prog_1_method_22_code
def yX6_restore : MethodName := ⟨RX6, "restore", "(I)I"⟩
abbrev cX6_told : ByteArray := prog_1_method_23_code
def yX6_told : MethodName := ⟨RX6, "told", "(I)I"⟩
abbrev cX6_isSign : ByteArray := prog_1_method_24_code
def yX6_isSign : MethodName := ⟨RX6, "isSign", "(I)Z"⟩
abbrev cX6_isLayer : ByteArray := prog_1_method_25_code
def yX6_isLayer : MethodName := ⟨RX6, "isLayer", "(I)Z"⟩
abbrev cX6_isImage : ByteArray := prog_1_method_26_code
def yX6_isImage : MethodName := ⟨RX6, "isImage", "(I)Z"⟩
abbrev cX6_imageAt : ByteArray := prog_1_method_27_code
def yX6_imageAt : MethodName := ⟨RX6, "imageAt", "(I)LQuotedLayers$Stand;"⟩
abbrev cX6_isPlace : ByteArray := prog_1_method_28_code
def yX6_isPlace : MethodName := ⟨RX6, "isPlace", "(I)Z"⟩
abbrev cX6_lengthOfLone : ByteArray := prog_1_method_29_code
def yX6_lengthOfLone : MethodName := ⟨RX6, "lengthOfLone", "(I)I"⟩
abbrev cX6_outcome : ByteArray := prog_1_method_30_code
def yX6_outcome : MethodName := ⟨RX6, "outcome", "(LQuotedLayers$Row;LQuotedLayers$Row;I)I"⟩
abbrev cX6_padIsSpillRow : ByteArray := prog_1_method_31_code
def yX6_padIsSpillRow : MethodName := ⟨RX6, "padIsSpillRow", "()Z"⟩
abbrev cX6_findShortestSpill : ByteArray := prog_1_method_32_code
def yX6_findShortestSpill : MethodName := ⟨RX6, "findShortestSpill", "(I)Z"⟩
abbrev cX6_spellTrial : ByteArray := prog_1_method_33_code
def yX6_spellTrial : MethodName := ⟨RX6, "spellTrial", "()V"⟩
abbrev cX6_readsPadWholly : ByteArray := prog_1_method_34_code
def yX6_readsPadWholly : MethodName := ⟨RX6, "readsPadWholly", "(LQuotedLayers$Row;)Z"⟩
abbrev cX6_asDigits : ByteArray := prog_1_method_35_code
def yX6_asDigits : MethodName := ⟨RX6, "asDigits", "(LQuotedLayers$Row;)I"⟩
abbrev cX6_findShortestOrder : ByteArray := prog_1_method_36_code
def yX6_findShortestOrder : MethodName := ⟨RX6, "findShortestOrder", "()I"⟩
abbrev cX6_lengthInOrder : ByteArray := prog_1_method_37_code
def yX6_lengthInOrder : MethodName := ⟨RX6, "lengthInOrder", "(LQuotedLayers$Row;)I"⟩
def RX7 : String := "QuotedLayersModel"
def TX7 : u_T := fun k => match k with
  | 0 => ("QuotedLayersModel", "signs", "I", false)
  | 1 => ("QuotedLayersModel", "pad", "[I", true)
  | 2 => ("QuotedLayersModel", "mark", "[I", true)
  | 3 => ("QuotedLayersModel", "way", "[I", true)
  | 4 => ("QuotedLayersModel", "mask", "[I", true)
  | 5 => ("QuotedLayersModel", "many", "[I", true)
  | 6 => ("QuotedLayersModel", "held", "[I", true)
  | 7 => ("QuotedLayersModel", "chained", "I", false)
  | 8 => ("QuotedLayersModel", "chain", "[I", true)
  | 9 => ("QuotedLayersModel", "texts", "I", false)
  | 10 => ("QuotedLayersModel", "text", "[I", true)
  | 11 => ("QuotedLayersModel", "length", "I", false)
  | 12 => ("QuotedLayersModel", "row", "[I", true)
  | 13 => ("QuotedLayersModel", "other", "[I", true)
  | 14 => ("QuotedLayersModel", "place", "I", false)
  | 15 => ("QuotedLayersModel", "first", "[I", true)
  | 16 => ("QuotedLayersModel", "firsts", "I", false)
  | 17 => ("QuotedLayersModel", "places", "[I", true)
  | 18 => ("QuotedLayersModel", "bestPlaces", "[I", true)
  | 19 => ("QuotedLayersModel", "kept", "[I", true)
  | 20 => ("QuotedLayersModel", "image", "[I", true)
  | _ => ("QuotedLayersModel", "isKept", "[Z", true)
def tyX7 : Nat → FieldType := fun k => match k with
  | 0 => .int
  | 1 => .array .int
  | 2 => .array .int
  | 3 => .array .int
  | 4 => .array .int
  | 5 => .array .int
  | 6 => .array .int
  | 7 => .int
  | 8 => .array .int
  | 9 => .int
  | 10 => .array .int
  | 11 => .int
  | 12 => .array .int
  | 13 => .array .int
  | 14 => .int
  | 15 => .array .int
  | 16 => .int
  | 17 => .array .int
  | 18 => .array .int
  | 19 => .array .int
  | 20 => .array .int
  | _ => .array .boolean
abbrev wsX70 : List Cond := u_ws RX7 TX7 22
theorem nmX7 : ∀ a, a < 22 → ∀ b, b < 22 → a ≠ b → (TX7 a).2.1 ≠ (TX7 b).2.1 := by decide +kernel
theorem tyX7_ok : ∀ k, k < 22 → parseFieldDescriptor (TX7 k).2.2.1 = some (tyX7 k) := by decide +kernel
abbrev cX7_init : ByteArray := prog_9_method_1_code
def yX7_init : MethodName := ⟨RX7, "<init>", "()V"⟩
abbrev cX7_in : ByteArray := prog_9_method_2_code
def yX7_in : MethodName := ⟨RX7, "in", "(III)Z"⟩
abbrev cX7_isLayer : ByteArray := prog_9_method_3_code
def yX7_isLayer : MethodName := ⟨RX7, "isLayer", "(I)Z"⟩
abbrev cX7_say : ByteArray := prog_9_method_4_code
def yX7_say : MethodName := ⟨RX7, "say", "(I)I"⟩
abbrev cX7_wipe : ByteArray := prog_9_method_5_code
def yX7_wipe : MethodName := ⟨RX7, "wipe", "()I"⟩
abbrev cX7_isDigit : ByteArray := prog_9_method_6_code
def yX7_isDigit : MethodName := ⟨RX7, "isDigit", "(I)Z"⟩
abbrev cX7_isNew : ByteArray := prog_9_method_7_code
def yX7_isNew : MethodName := ⟨RX7, "isNew", "(I)Z"⟩
abbrev cX7_faultOf : ByteArray := prog_9_method_8_code
def yX7_faultOf : MethodName := ⟨RX7, "faultOf", "()I"⟩
abbrev cX7_fault : ByteArray := prog_9_method_9_code
def yX7_fault : MethodName := ⟨RX7, "fault", "()I"⟩
abbrev cX7_layer : ByteArray := prog_9_method_10_code
def yX7_layer : MethodName := ⟨RX7, "layer", "(I)I"⟩
abbrev cX7_about : ByteArray := prog_9_method_11_code
def yX7_about : MethodName := ⟨RX7, "about", "(II)I"⟩
abbrev cX7_chain : ByteArray := prog_9_method_12_code
def yX7_chain : MethodName := ⟨RX7, "chain", "(I)I"⟩
abbrev cX7_unchain : ByteArray := prog_9_method_13_code
def yX7_unchain : MethodName := ⟨RX7, "unchain", "()I"⟩
abbrev cX7_text : ByteArray := prog_9_method_14_code
def yX7_text : MethodName := ⟨RX7, "text", "()I"⟩
abbrev cX7_hasMark : ByteArray := prog_9_method_15_code
def yX7_hasMark : MethodName := ⟨RX7, "hasMark", "(I)Z"⟩
abbrev cX7_isHeld : ByteArray := prog_9_method_16_code
def yX7_isHeld : MethodName := ⟨RX7, "isHeld", "(II)Z"⟩
abbrev cX7_isMasked : ByteArray := prog_9_method_17_code
def yX7_isMasked : MethodName := ⟨RX7, "isMasked", "(II)Z"⟩
abbrev cX7_digit : ByteArray := prog_9_method_18_code
def yX7_digit : MethodName := ⟨RX7, "digit", "(I)I"⟩
abbrev cX7_put : ByteArray := prog_9_method_19_code
def yX7_put : MethodName := ⟨RX7, "put", "(IZ)I"⟩
abbrev cX7_layText : ByteArray := prog_9_method_20_code
def yX7_layText : MethodName := ⟨RX7, "layText", "()V"⟩
abbrev cX7_goThrough : ByteArray := prog_9_method_21_code
def yX7_goThrough : MethodName := ⟨RX7, "goThrough", "(II)I"⟩
abbrev cX7_behind : ByteArray := prog_9_method_22_code
def yX7_behind : MethodName := ⟨RX7, "behind", "(II)I"⟩
abbrev cX7_barred : ByteArray := prog_9_method_23_code
def yX7_barred : MethodName := ⟨RX7, "barred", "()I"⟩
abbrev cX7_lengthOf : ByteArray := prog_9_method_24_code
def yX7_lengthOf : MethodName := ⟨RX7, "lengthOf", "(I)I"⟩
abbrev cX7_growsOf : ByteArray := prog_9_method_25_code
def yX7_growsOf : MethodName := ⟨RX7, "growsOf", "(I)I"⟩
abbrev cX7_grows : ByteArray := prog_9_method_26_code
def yX7_grows : MethodName := ⟨RX7, "grows", "(I)I"⟩
abbrev cX7_safe : ByteArray := prog_9_method_27_code
def yX7_safe : MethodName := ⟨RX7, "safe", "(I)I"⟩
abbrev cX7_dearest : ByteArray := prog_9_method_28_code
def yX7_dearest : MethodName := ⟨RX7, "dearest", "()I"⟩
abbrev cX7_valueOf : ByteArray := prog_9_method_29_code
def yX7_valueOf : MethodName := ⟨RX7, "valueOf", "(I)I"⟩
abbrev cX7_codeAt : ByteArray := prog_9_method_30_code
def yX7_codeAt : MethodName := ⟨RX7, "codeAt", "(I)I"⟩
abbrev cX7_readBy : ByteArray := prog_9_method_31_code
def yX7_readBy : MethodName := ⟨RX7, "readBy", "(I)I"⟩
abbrev cX7_readBack : ByteArray := prog_9_method_32_code
def yX7_readBack : MethodName := ⟨RX7, "readBack", "()I"⟩
abbrev cX7_layPad : ByteArray := prog_9_method_33_code
def yX7_layPad : MethodName := ⟨RX7, "layPad", "()V"⟩
abbrev cX7_read : ByteArray := prog_9_method_34_code
def yX7_read : MethodName := ⟨RX7, "read", "(I)I"⟩
abbrev cX7_howBack : ByteArray := prog_9_method_35_code
def yX7_howBack : MethodName := ⟨RX7, "howBack", "()I"⟩
abbrev cX7_keepText : ByteArray := prog_9_method_36_code
def yX7_keepText : MethodName := ⟨RX7, "keepText", "()V"⟩
abbrev cX7_spills : ByteArray := prog_9_method_37_code
def yX7_spills : MethodName := ⟨RX7, "spills", "(I)I"⟩
abbrev cX7_isRow : ByteArray := prog_9_method_38_code
def yX7_isRow : MethodName := ⟨RX7, "isRow", "()Z"⟩
abbrev cX7_spill : ByteArray := prog_9_method_39_code
def yX7_spill : MethodName := ⟨RX7, "spill", "(II)I"⟩
abbrev cX7_twice : ByteArray := prog_9_method_40_code
def yX7_twice : MethodName := ⟨RX7, "twice", "(I)I"⟩
abbrev cX7_isAsAtFirst : ByteArray := prog_9_method_41_code
def yX7_isAsAtFirst : MethodName := ⟨RX7, "isAsAtFirst", "(I)Z"⟩
abbrev cX7_fitsRow : ByteArray := prog_9_method_42_code
def yX7_fitsRow : MethodName := ⟨RX7, "fitsRow", "(III)Z"⟩
abbrev cX7_rows : ByteArray := prog_9_method_43_code
def yX7_rows : MethodName := ⟨RX7, "rows", "(I)I"⟩
abbrev cX7_nextOrder : ByteArray := prog_9_method_44_code
def yX7_nextOrder : MethodName := ⟨RX7, "nextOrder", "()Z"⟩
abbrev cX7_order : ByteArray := prog_9_method_45_code
def yX7_order : MethodName := ⟨RX7, "order", "(I)I"⟩
abbrev cX7_image : ByteArray := prog_9_method_46_code
def yX7_image : MethodName := ⟨RX7, "image", "(I)I"⟩
abbrev cX7_restore : ByteArray := prog_9_method_47_code
def yX7_restore : MethodName := ⟨RX7, "restore", "(I)I"⟩
abbrev cX7_told : ByteArray := prog_9_method_48_code
def yX7_told : MethodName := ⟨RX7, "told", "(I)I"⟩
def RL : String := "QuotedLayersLaw"
abbrev cL_law : ByteArray := code
def yL_law : MethodName := ⟨RL, "law", "([I)Z"⟩
end
section
theorem dX0_nextDigits_0 : decode cX0_nextDigits 0 = .ok (.aload_n 0, 1) := by decide +kernel
theorem dX0_nextDigits_1 : decode cX0_nextDigits 1 = .ok (.invokevirtual 7, 3) := by decide +kernel
theorem dX0_nextDigits_4 : decode cX0_nextDigits 4 = .ok (.iconst 1, 1) := by decide +kernel
theorem dX0_nextDigits_5 : decode cX0_nextDigits 5 = .ok (.isub, 1) := by decide +kernel
theorem dX0_nextDigits_6 : decode cX0_nextDigits 6 = .ok (.istore_n 2, 1) := by decide +kernel
theorem dX0_nextDigits_7 : decode cX0_nextDigits 7 = .ok (.iload_n 2, 1) := by decide +kernel
theorem dX0_nextDigits_8 : decode cX0_nextDigits 8 = .ok (.ifCond .lt 40, 3) := by decide +kernel
theorem dX0_nextDigits_11 : decode cX0_nextDigits 11 = .ok (.aload_n 0, 1) := by decide +kernel
theorem dX0_nextDigits_12 : decode cX0_nextDigits 12 = .ok (.iload_n 2, 1) := by decide +kernel
theorem dX0_nextDigits_13 : decode cX0_nextDigits 13 = .ok (.invokevirtual 13, 3) := by decide +kernel
theorem dX0_nextDigits_16 : decode cX0_nextDigits 16 = .ok (.iconst 1, 1) := by decide +kernel
theorem dX0_nextDigits_17 : decode cX0_nextDigits 17 = .ok (.iadd, 1) := by decide +kernel
theorem dX0_nextDigits_18 : decode cX0_nextDigits 18 = .ok (.iload_n 1, 1) := by decide +kernel
theorem dX0_nextDigits_19 : decode cX0_nextDigits 19 = .ok (.if_icmp .ge 17, 3) := by decide +kernel
theorem dX0_nextDigits_22 : decode cX0_nextDigits 22 = .ok (.aload_n 0, 1) := by decide +kernel
theorem dX0_nextDigits_23 : decode cX0_nextDigits 23 = .ok (.iload_n 2, 1) := by decide +kernel
theorem dX0_nextDigits_24 : decode cX0_nextDigits 24 = .ok (.aload_n 0, 1) := by decide +kernel
theorem dX0_nextDigits_25 : decode cX0_nextDigits 25 = .ok (.iload_n 2, 1) := by decide +kernel
theorem dX0_nextDigits_26 : decode cX0_nextDigits 26 = .ok (.invokevirtual 13, 3) := by decide +kernel
theorem dX0_nextDigits_29 : decode cX0_nextDigits 29 = .ok (.iconst 1, 1) := by decide +kernel
theorem dX0_nextDigits_30 : decode cX0_nextDigits 30 = .ok (.iadd, 1) := by decide +kernel
theorem dX0_nextDigits_31 : decode cX0_nextDigits 31 = .ok (.invokevirtual 17, 3) := by decide +kernel
theorem dX0_nextDigits_34 : decode cX0_nextDigits 34 = .ok (.iconst 1, 1) := by decide +kernel
theorem dX0_nextDigits_35 : decode cX0_nextDigits 35 = .ok (.ireturn, 1) := by decide +kernel
theorem dX0_nextDigits_36 : decode cX0_nextDigits 36 = .ok (.aload_n 0, 1) := by decide +kernel
theorem dX0_nextDigits_37 : decode cX0_nextDigits 37 = .ok (.iload_n 2, 1) := by decide +kernel
theorem dX0_nextDigits_38 : decode cX0_nextDigits 38 = .ok (.iconst 0, 1) := by decide +kernel
theorem dX0_nextDigits_39 : decode cX0_nextDigits 39 = .ok (.invokevirtual 17, 3) := by decide +kernel
theorem dX0_nextDigits_42 : decode cX0_nextDigits 42 = .ok (.iinc 2 (-1), 3) := by decide +kernel
theorem dX0_nextDigits_45 : decode cX0_nextDigits 45 = .ok (.goto (-38), 3) := by decide +kernel
theorem dX0_nextDigits_48 : decode cX0_nextDigits 48 = .ok (.iconst 0, 1) := by decide +kernel
theorem dX0_nextDigits_49 : decode cX0_nextDigits 49 = .ok (.ireturn, 1) := by decide +kernel
theorem dX0_nextOrder_0 : decode cX0_nextOrder 0 = .ok (.aload_n 0, 1) := by decide +kernel
theorem dX0_nextOrder_1 : decode cX0_nextOrder 1 = .ok (.invokevirtual 7, 3) := by decide +kernel
theorem dX0_nextOrder_4 : decode cX0_nextOrder 4 = .ok (.iconst 2, 1) := by decide +kernel
theorem dX0_nextOrder_5 : decode cX0_nextOrder 5 = .ok (.isub, 1) := by decide +kernel
theorem dX0_nextOrder_6 : decode cX0_nextOrder 6 = .ok (.istore_n 1, 1) := by decide +kernel
theorem dX0_nextOrder_7 : decode cX0_nextOrder 7 = .ok (.iload_n 1, 1) := by decide +kernel
theorem dX0_nextOrder_8 : decode cX0_nextOrder 8 = .ok (.ifCond .lt 24, 3) := by decide +kernel
theorem dX0_nextOrder_11 : decode cX0_nextOrder 11 = .ok (.aload_n 0, 1) := by decide +kernel
theorem dX0_nextOrder_12 : decode cX0_nextOrder 12 = .ok (.iload_n 1, 1) := by decide +kernel
theorem dX0_nextOrder_13 : decode cX0_nextOrder 13 = .ok (.invokevirtual 13, 3) := by decide +kernel
theorem dX0_nextOrder_16 : decode cX0_nextOrder 16 = .ok (.aload_n 0, 1) := by decide +kernel
theorem dX0_nextOrder_17 : decode cX0_nextOrder 17 = .ok (.iload_n 1, 1) := by decide +kernel
theorem dX0_nextOrder_18 : decode cX0_nextOrder 18 = .ok (.iconst 1, 1) := by decide +kernel
theorem dX0_nextOrder_19 : decode cX0_nextOrder 19 = .ok (.iadd, 1) := by decide +kernel
theorem dX0_nextOrder_20 : decode cX0_nextOrder 20 = .ok (.invokevirtual 13, 3) := by decide +kernel
theorem dX0_nextOrder_23 : decode cX0_nextOrder 23 = .ok (.if_icmp .lt 9, 3) := by decide +kernel
theorem dX0_nextOrder_26 : decode cX0_nextOrder 26 = .ok (.iinc 1 (-1), 3) := by decide +kernel
theorem dX0_nextOrder_29 : decode cX0_nextOrder 29 = .ok (.goto (-22), 3) := by decide +kernel
theorem dX0_nextOrder_32 : decode cX0_nextOrder 32 = .ok (.iload_n 1, 1) := by decide +kernel
theorem dX0_nextOrder_33 : decode cX0_nextOrder 33 = .ok (.ifCond .ge 5, 3) := by decide +kernel
theorem dX0_nextOrder_36 : decode cX0_nextOrder 36 = .ok (.iconst 0, 1) := by decide +kernel
theorem dX0_nextOrder_37 : decode cX0_nextOrder 37 = .ok (.ireturn, 1) := by decide +kernel
theorem dX0_nextOrder_38 : decode cX0_nextOrder 38 = .ok (.aload_n 0, 1) := by decide +kernel
theorem dX0_nextOrder_39 : decode cX0_nextOrder 39 = .ok (.invokevirtual 7, 3) := by decide +kernel
theorem dX0_nextOrder_42 : decode cX0_nextOrder 42 = .ok (.iconst 1, 1) := by decide +kernel
theorem dX0_nextOrder_43 : decode cX0_nextOrder 43 = .ok (.isub, 1) := by decide +kernel
theorem dX0_nextOrder_44 : decode cX0_nextOrder 44 = .ok (.istore_n 2, 1) := by decide +kernel
theorem dX0_nextOrder_45 : decode cX0_nextOrder 45 = .ok (.iload_n 2, 1) := by decide +kernel
theorem dX0_nextOrder_46 : decode cX0_nextOrder 46 = .ok (.iload_n 1, 1) := by decide +kernel
theorem dX0_nextOrder_47 : decode cX0_nextOrder 47 = .ok (.if_icmp .le 22, 3) := by decide +kernel
theorem dX0_nextOrder_50 : decode cX0_nextOrder 50 = .ok (.aload_n 0, 1) := by decide +kernel
theorem dX0_nextOrder_51 : decode cX0_nextOrder 51 = .ok (.iload_n 2, 1) := by decide +kernel
theorem dX0_nextOrder_52 : decode cX0_nextOrder 52 = .ok (.invokevirtual 13, 3) := by decide +kernel
theorem dX0_nextOrder_55 : decode cX0_nextOrder 55 = .ok (.aload_n 0, 1) := by decide +kernel
theorem dX0_nextOrder_56 : decode cX0_nextOrder 56 = .ok (.iload_n 1, 1) := by decide +kernel
theorem dX0_nextOrder_57 : decode cX0_nextOrder 57 = .ok (.invokevirtual 13, 3) := by decide +kernel
theorem dX0_nextOrder_60 : decode cX0_nextOrder 60 = .ok (.if_icmp .gt 9, 3) := by decide +kernel
theorem dX0_nextOrder_63 : decode cX0_nextOrder 63 = .ok (.iinc 2 (-1), 3) := by decide +kernel
theorem dX0_nextOrder_66 : decode cX0_nextOrder 66 = .ok (.goto (-21), 3) := by decide +kernel
theorem dX0_nextOrder_69 : decode cX0_nextOrder 69 = .ok (.aload_n 0, 1) := by decide +kernel
theorem dX0_nextOrder_70 : decode cX0_nextOrder 70 = .ok (.iload_n 1, 1) := by decide +kernel
theorem dX0_nextOrder_71 : decode cX0_nextOrder 71 = .ok (.iload_n 2, 1) := by decide +kernel
theorem dX0_nextOrder_72 : decode cX0_nextOrder 72 = .ok (.invokevirtual 21, 3) := by decide +kernel
theorem dX0_nextOrder_75 : decode cX0_nextOrder 75 = .ok (.aload_n 0, 1) := by decide +kernel
theorem dX0_nextOrder_76 : decode cX0_nextOrder 76 = .ok (.iload_n 1, 1) := by decide +kernel
theorem dX0_nextOrder_77 : decode cX0_nextOrder 77 = .ok (.iconst 1, 1) := by decide +kernel
theorem dX0_nextOrder_78 : decode cX0_nextOrder 78 = .ok (.iadd, 1) := by decide +kernel
theorem dX0_nextOrder_79 : decode cX0_nextOrder 79 = .ok (.invokestatic 24, 3) := by decide +kernel
theorem dX0_nextOrder_82 : decode cX0_nextOrder 82 = .ok (.iconst 1, 1) := by decide +kernel
theorem dX0_nextOrder_83 : decode cX0_nextOrder 83 = .ok (.ireturn, 1) := by decide +kernel
theorem dX0_reverseFrom_0 : decode cX0_reverseFrom 0 = .ok (.iload_n 1, 1) := by decide +kernel
theorem dX0_reverseFrom_1 : decode cX0_reverseFrom 1 = .ok (.istore_n 2, 1) := by decide +kernel
theorem dX0_reverseFrom_2 : decode cX0_reverseFrom 2 = .ok (.aload_n 0, 1) := by decide +kernel
theorem dX0_reverseFrom_3 : decode cX0_reverseFrom 3 = .ok (.invokevirtual 7, 3) := by decide +kernel
theorem dX0_reverseFrom_6 : decode cX0_reverseFrom 6 = .ok (.iconst 1, 1) := by decide +kernel
theorem dX0_reverseFrom_7 : decode cX0_reverseFrom 7 = .ok (.isub, 1) := by decide +kernel
theorem dX0_reverseFrom_8 : decode cX0_reverseFrom 8 = .ok (.istore_n 3, 1) := by decide +kernel
theorem dX0_reverseFrom_9 : decode cX0_reverseFrom 9 = .ok (.iload_n 2, 1) := by decide +kernel
theorem dX0_reverseFrom_10 : decode cX0_reverseFrom 10 = .ok (.iload_n 3, 1) := by decide +kernel
theorem dX0_reverseFrom_11 : decode cX0_reverseFrom 11 = .ok (.if_icmp .ge 18, 3) := by decide +kernel
theorem dX0_reverseFrom_14 : decode cX0_reverseFrom 14 = .ok (.aload_n 0, 1) := by decide +kernel
theorem dX0_reverseFrom_15 : decode cX0_reverseFrom 15 = .ok (.iload_n 2, 1) := by decide +kernel
theorem dX0_reverseFrom_16 : decode cX0_reverseFrom 16 = .ok (.iload_n 3, 1) := by decide +kernel
theorem dX0_reverseFrom_17 : decode cX0_reverseFrom 17 = .ok (.invokevirtual 21, 3) := by decide +kernel
theorem dX0_reverseFrom_20 : decode cX0_reverseFrom 20 = .ok (.iinc 2 1, 3) := by decide +kernel
theorem dX0_reverseFrom_23 : decode cX0_reverseFrom 23 = .ok (.iinc 3 (-1), 3) := by decide +kernel
theorem dX0_reverseFrom_26 : decode cX0_reverseFrom 26 = .ok (.goto (-17), 3) := by decide +kernel
theorem dX0_reverseFrom_29 : decode cX0_reverseFrom 29 = .ok (.return_, 1) := by decide +kernel
theorem dX1_init_0 : decode cX1_init 0 = .ok (.aload_n 0, 1) := by decide +kernel
theorem dX1_init_1 : decode cX1_init 1 = .ok (.invokespecial 3, 3) := by decide +kernel
theorem dX1_init_4 : decode cX1_init 4 = .ok (.aload_n 0, 1) := by decide +kernel
theorem dX1_init_5 : decode cX1_init 5 = .ok (.bipush (-6), 2) := by decide +kernel
theorem dX1_init_7 : decode cX1_init 7 = .ok (.putfield 9, 3) := by decide +kernel
theorem dX1_init_10 : decode cX1_init 10 = .ok (.aload_n 0, 1) := by decide +kernel
theorem dX1_init_11 : decode cX1_init 11 = .ok (.iconst 0, 1) := by decide +kernel
theorem dX1_init_12 : decode cX1_init 12 = .ok (.putfield 15, 3) := by decide +kernel
theorem dX1_init_15 : decode cX1_init 15 = .ok (.aload_n 0, 1) := by decide +kernel
theorem dX1_init_16 : decode cX1_init 16 = .ok (.bipush (-6), 2) := by decide +kernel
theorem dX1_init_18 : decode cX1_init 18 = .ok (.putfield 18, 3) := by decide +kernel
theorem dX1_init_21 : decode cX1_init 21 = .ok (.aload_n 0, 1) := by decide +kernel
theorem dX1_init_22 : decode cX1_init 22 = .ok (.new 21, 3) := by decide +kernel
theorem dX1_init_25 : decode cX1_init 25 = .ok (.dup, 1) := by decide +kernel
theorem dX1_init_26 : decode cX1_init 26 = .ok (.bipush 6, 2) := by decide +kernel
theorem dX1_init_28 : decode cX1_init 28 = .ok (.invokespecial 23, 3) := by decide +kernel
theorem dX1_init_31 : decode cX1_init 31 = .ok (.putfield 26, 3) := by decide +kernel
theorem dX1_init_34 : decode cX1_init 34 = .ok (.return_, 1) := by decide +kernel
theorem dX1_hasMask_0 : decode cX1_hasMask 0 = .ok (.iload_n 0, 1) := by decide +kernel
theorem dX1_hasMask_1 : decode cX1_hasMask 1 = .ok (.iconst 1, 1) := by decide +kernel
theorem dX1_hasMask_2 : decode cX1_hasMask 2 = .ok (.if_icmp .eq 8, 3) := by decide +kernel
theorem dX1_hasMask_5 : decode cX1_hasMask 5 = .ok (.iload_n 0, 1) := by decide +kernel
theorem dX1_hasMask_6 : decode cX1_hasMask 6 = .ok (.iconst 3, 1) := by decide +kernel
theorem dX1_hasMask_7 : decode cX1_hasMask 7 = .ok (.if_icmp .ne 7, 3) := by decide +kernel
theorem dX1_hasMask_10 : decode cX1_hasMask 10 = .ok (.iconst 1, 1) := by decide +kernel
theorem dX1_hasMask_11 : decode cX1_hasMask 11 = .ok (.goto 4, 3) := by decide +kernel
theorem dX1_hasMask_14 : decode cX1_hasMask 14 = .ok (.iconst 0, 1) := by decide +kernel
theorem dX1_hasMask_15 : decode cX1_hasMask 15 = .ok (.ireturn, 1) := by decide +kernel
theorem dX1_become_0 : decode cX1_become 0 = .ok (.aload_n 0, 1) := by decide +kernel
theorem dX1_become_1 : decode cX1_become 1 = .ok (.aload_n 1, 1) := by decide +kernel
theorem dX1_become_2 : decode cX1_become 2 = .ok (.iconst 0, 1) := by decide +kernel
theorem dX1_become_3 : decode cX1_become 3 = .ok (.invokevirtual 30, 3) := by decide +kernel
theorem dX1_become_6 : decode cX1_become 6 = .ok (.bipush 45, 2) := by decide +kernel
theorem dX1_become_8 : decode cX1_become 8 = .ok (.if_icmp .ne 8, 3) := by decide +kernel
theorem dX1_become_11 : decode cX1_become 11 = .ok (.bipush (-6), 2) := by decide +kernel
theorem dX1_become_13 : decode cX1_become 13 = .ok (.goto 8, 3) := by decide +kernel
theorem dX1_become_16 : decode cX1_become 16 = .ok (.aload_n 1, 1) := by decide +kernel
theorem dX1_become_17 : decode cX1_become 17 = .ok (.iconst 0, 1) := by decide +kernel
theorem dX1_become_18 : decode cX1_become 18 = .ok (.invokevirtual 30, 3) := by decide +kernel
theorem dX1_become_21 : decode cX1_become 21 = .ok (.putfield 9, 3) := by decide +kernel
theorem dX1_become_24 : decode cX1_become 24 = .ok (.aload_n 0, 1) := by decide +kernel
theorem dX1_become_25 : decode cX1_become 25 = .ok (.aload_n 1, 1) := by decide +kernel
theorem dX1_become_26 : decode cX1_become 26 = .ok (.iconst 1, 1) := by decide +kernel
theorem dX1_become_27 : decode cX1_become 27 = .ok (.invokevirtual 30, 3) := by decide +kernel
theorem dX1_become_30 : decode cX1_become 30 = .ok (.bipush 48, 2) := by decide +kernel
theorem dX1_become_32 : decode cX1_become 32 = .ok (.isub, 1) := by decide +kernel
theorem dX1_become_33 : decode cX1_become 33 = .ok (.putfield 15, 3) := by decide +kernel
theorem dX1_become_36 : decode cX1_become 36 = .ok (.aload_n 0, 1) := by decide +kernel
theorem dX1_become_37 : decode cX1_become 37 = .ok (.aload_n 0, 1) := by decide +kernel
theorem dX1_become_38 : decode cX1_become 38 = .ok (.getfield 15, 3) := by decide +kernel
theorem dX1_become_41 : decode cX1_become 41 = .ok (.invokestatic 34, 3) := by decide +kernel
theorem dX1_become_44 : decode cX1_become 44 = .ok (.ifCond .eq 11, 3) := by decide +kernel
theorem dX1_become_47 : decode cX1_become 47 = .ok (.aload_n 1, 1) := by decide +kernel
theorem dX1_become_48 : decode cX1_become 48 = .ok (.iconst 2, 1) := by decide +kernel
theorem dX1_become_49 : decode cX1_become 49 = .ok (.invokevirtual 30, 3) := by decide +kernel
theorem dX1_become_52 : decode cX1_become 52 = .ok (.goto 5, 3) := by decide +kernel
theorem dX1_become_55 : decode cX1_become 55 = .ok (.bipush (-6), 2) := by decide +kernel
theorem dX1_become_57 : decode cX1_become 57 = .ok (.putfield 18, 3) := by decide +kernel
theorem dX1_become_60 : decode cX1_become 60 = .ok (.aload_n 0, 1) := by decide +kernel
theorem dX1_become_61 : decode cX1_become 61 = .ok (.getfield 26, 3) := by decide +kernel
theorem dX1_become_64 : decode cX1_become 64 = .ok (.invokevirtual 38, 3) := by decide +kernel
theorem dX1_become_67 : decode cX1_become 67 = .ok (.aload_n 0, 1) := by decide +kernel
theorem dX1_become_68 : decode cX1_become 68 = .ok (.getfield 15, 3) := by decide +kernel
theorem dX1_become_71 : decode cX1_become 71 = .ok (.invokestatic 41, 3) := by decide +kernel
theorem dX1_become_74 : decode cX1_become 74 = .ok (.istore_n 2, 1) := by decide +kernel
theorem dX1_become_75 : decode cX1_become 75 = .ok (.iload_n 2, 1) := by decide +kernel
theorem dX1_become_76 : decode cX1_become 76 = .ok (.aload_n 1, 1) := by decide +kernel
theorem dX1_become_77 : decode cX1_become 77 = .ok (.invokevirtual 46, 3) := by decide +kernel
theorem dX1_become_80 : decode cX1_become 80 = .ok (.if_icmp .ge 21, 3) := by decide +kernel
theorem dX1_become_83 : decode cX1_become 83 = .ok (.aload_n 0, 1) := by decide +kernel
theorem dX1_become_84 : decode cX1_become 84 = .ok (.getfield 26, 3) := by decide +kernel
theorem dX1_become_87 : decode cX1_become 87 = .ok (.aload_n 1, 1) := by decide +kernel
theorem dX1_become_88 : decode cX1_become 88 = .ok (.iload_n 2, 1) := by decide +kernel
theorem dX1_become_89 : decode cX1_become 89 = .ok (.invokevirtual 30, 3) := by decide +kernel
theorem dX1_become_92 : decode cX1_become 92 = .ok (.invokevirtual 50, 3) := by decide +kernel
theorem dX1_become_95 : decode cX1_become 95 = .ok (.iinc 2 1, 3) := by decide +kernel
theorem dX1_become_98 : decode cX1_become 98 = .ok (.goto (-23), 3) := by decide +kernel
theorem dX1_become_101 : decode cX1_become 101 = .ok (.return_, 1) := by decide +kernel
theorem dX1_copyFrom_0 : decode cX1_copyFrom 0 = .ok (.aload_n 0, 1) := by decide +kernel
theorem dX1_copyFrom_1 : decode cX1_copyFrom 1 = .ok (.aload_n 1, 1) := by decide +kernel
theorem dX1_copyFrom_2 : decode cX1_copyFrom 2 = .ok (.getfield 9, 3) := by decide +kernel
theorem dX1_copyFrom_5 : decode cX1_copyFrom 5 = .ok (.putfield 9, 3) := by decide +kernel
theorem dX1_copyFrom_8 : decode cX1_copyFrom 8 = .ok (.aload_n 0, 1) := by decide +kernel
theorem dX1_copyFrom_9 : decode cX1_copyFrom 9 = .ok (.aload_n 1, 1) := by decide +kernel
theorem dX1_copyFrom_10 : decode cX1_copyFrom 10 = .ok (.getfield 15, 3) := by decide +kernel
theorem dX1_copyFrom_13 : decode cX1_copyFrom 13 = .ok (.putfield 15, 3) := by decide +kernel
theorem dX1_copyFrom_16 : decode cX1_copyFrom 16 = .ok (.aload_n 0, 1) := by decide +kernel
theorem dX1_copyFrom_17 : decode cX1_copyFrom 17 = .ok (.aload_n 1, 1) := by decide +kernel
theorem dX1_copyFrom_18 : decode cX1_copyFrom 18 = .ok (.getfield 18, 3) := by decide +kernel
theorem dX1_copyFrom_21 : decode cX1_copyFrom 21 = .ok (.putfield 18, 3) := by decide +kernel
theorem dX1_copyFrom_24 : decode cX1_copyFrom 24 = .ok (.aload_n 0, 1) := by decide +kernel
theorem dX1_copyFrom_25 : decode cX1_copyFrom 25 = .ok (.getfield 26, 3) := by decide +kernel
theorem dX1_copyFrom_28 : decode cX1_copyFrom 28 = .ok (.aload_n 1, 1) := by decide +kernel
theorem dX1_copyFrom_29 : decode cX1_copyFrom 29 = .ok (.getfield 26, 3) := by decide +kernel
theorem dX1_copyFrom_32 : decode cX1_copyFrom 32 = .ok (.invokevirtual 53, 3) := by decide +kernel
theorem dX1_copyFrom_35 : decode cX1_copyFrom 35 = .ok (.return_, 1) := by decide +kernel
theorem dX1_heldCount_0 : decode cX1_heldCount 0 = .ok (.aload_n 0, 1) := by decide +kernel
theorem dX1_heldCount_1 : decode cX1_heldCount 1 = .ok (.getfield 26, 3) := by decide +kernel
theorem dX1_heldCount_4 : decode cX1_heldCount 4 = .ok (.invokevirtual 46, 3) := by decide +kernel
theorem dX1_heldCount_7 : decode cX1_heldCount 7 = .ok (.ireturn, 1) := by decide +kernel
theorem dX1_part_0 : decode cX1_part 0 = .ok (.iload_n 1, 1) := by decide +kernel
theorem dX1_part_1 : decode cX1_part 1 = .ok (.tableswitch 42 0 2 #[27, 32, 37], 27) := by decide +kernel
theorem dX1_part_28 : decode cX1_part 28 = .ok (.aload_n 0, 1) := by decide +kernel
theorem dX1_part_29 : decode cX1_part 29 = .ok (.getfield 9, 3) := by decide +kernel
theorem dX1_part_32 : decode cX1_part 32 = .ok (.ireturn, 1) := by decide +kernel
theorem dX1_part_33 : decode cX1_part 33 = .ok (.aload_n 0, 1) := by decide +kernel
theorem dX1_part_34 : decode cX1_part 34 = .ok (.getfield 15, 3) := by decide +kernel
theorem dX1_part_37 : decode cX1_part 37 = .ok (.ireturn, 1) := by decide +kernel
theorem dX1_part_38 : decode cX1_part 38 = .ok (.aload_n 0, 1) := by decide +kernel
theorem dX1_part_39 : decode cX1_part 39 = .ok (.getfield 18, 3) := by decide +kernel
theorem dX1_part_42 : decode cX1_part 42 = .ok (.ireturn, 1) := by decide +kernel
theorem dX1_part_43 : decode cX1_part 43 = .ok (.aload_n 0, 1) := by decide +kernel
theorem dX1_part_44 : decode cX1_part 44 = .ok (.getfield 26, 3) := by decide +kernel
theorem dX1_part_47 : decode cX1_part 47 = .ok (.iload_n 1, 1) := by decide +kernel
theorem dX1_part_48 : decode cX1_part 48 = .ok (.iconst 3, 1) := by decide +kernel
theorem dX1_part_49 : decode cX1_part 49 = .ok (.isub, 1) := by decide +kernel
theorem dX1_part_50 : decode cX1_part 50 = .ok (.invokevirtual 30, 3) := by decide +kernel
theorem dX1_part_53 : decode cX1_part 53 = .ok (.ireturn, 1) := by decide +kernel
theorem dX1_isAsAtFirst_0 : decode cX1_isAsAtFirst 0 = .ok (.aload_n 0, 1) := by decide +kernel
theorem dX1_isAsAtFirst_1 : decode cX1_isAsAtFirst 1 = .ok (.getfield 9, 3) := by decide +kernel
theorem dX1_isAsAtFirst_4 : decode cX1_isAsAtFirst 4 = .ok (.bipush (-6), 2) := by decide +kernel
theorem dX1_isAsAtFirst_6 : decode cX1_isAsAtFirst 6 = .ok (.if_icmp .ne 24, 3) := by decide +kernel
theorem dX1_isAsAtFirst_9 : decode cX1_isAsAtFirst 9 = .ok (.aload_n 0, 1) := by decide +kernel
theorem dX1_isAsAtFirst_10 : decode cX1_isAsAtFirst 10 = .ok (.getfield 15, 3) := by decide +kernel
theorem dX1_isAsAtFirst_13 : decode cX1_isAsAtFirst 13 = .ok (.ifCond .ne 17, 3) := by decide +kernel
theorem dX1_isAsAtFirst_16 : decode cX1_isAsAtFirst 16 = .ok (.aload_n 0, 1) := by decide +kernel
theorem dX1_isAsAtFirst_17 : decode cX1_isAsAtFirst 17 = .ok (.getfield 26, 3) := by decide +kernel
theorem dX1_isAsAtFirst_20 : decode cX1_isAsAtFirst 20 = .ok (.invokevirtual 46, 3) := by decide +kernel
theorem dX1_isAsAtFirst_23 : decode cX1_isAsAtFirst 23 = .ok (.ifCond .ne 7, 3) := by decide +kernel
theorem dX1_isAsAtFirst_26 : decode cX1_isAsAtFirst 26 = .ok (.iconst 1, 1) := by decide +kernel
theorem dX1_isAsAtFirst_27 : decode cX1_isAsAtFirst 27 = .ok (.goto 4, 3) := by decide +kernel
theorem dX1_isAsAtFirst_30 : decode cX1_isAsAtFirst 30 = .ok (.iconst 0, 1) := by decide +kernel
theorem dX1_isAsAtFirst_31 : decode cX1_isAsAtFirst 31 = .ok (.ireturn, 1) := by decide +kernel
theorem dX1_put_0 : decode cX1_put 0 = .ok (.aload_n 2, 1) := by decide +kernel
theorem dX1_put_1 : decode cX1_put 1 = .ok (.invokevirtual 38, 3) := by decide +kernel
theorem dX1_put_4 : decode cX1_put 4 = .ok (.aload_n 0, 1) := by decide +kernel
theorem dX1_put_5 : decode cX1_put 5 = .ok (.aload_n 2, 1) := by decide +kernel
theorem dX1_put_6 : decode cX1_put 6 = .ok (.invokevirtual 57, 3) := by decide +kernel
theorem dX1_put_9 : decode cX1_put 9 = .ok (.iconst 0, 1) := by decide +kernel
theorem dX1_put_10 : decode cX1_put 10 = .ok (.istore 4, 2) := by decide +kernel
theorem dX1_put_12 : decode cX1_put 12 = .ok (.iload 4, 2) := by decide +kernel
theorem dX1_put_14 : decode cX1_put 14 = .ok (.aload_n 1, 1) := by decide +kernel
theorem dX1_put_15 : decode cX1_put 15 = .ok (.invokevirtual 46, 3) := by decide +kernel
theorem dX1_put_18 : decode cX1_put 18 = .ok (.if_icmp .ge 73, 3) := by decide +kernel
theorem dX1_put_21 : decode cX1_put 21 = .ok (.aload_n 1, 1) := by decide +kernel
theorem dX1_put_22 : decode cX1_put 22 = .ok (.iload 4, 2) := by decide +kernel
theorem dX1_put_24 : decode cX1_put 24 = .ok (.invokevirtual 30, 3) := by decide +kernel
theorem dX1_put_27 : decode cX1_put 27 = .ok (.istore 5, 2) := by decide +kernel
theorem dX1_put_29 : decode cX1_put 29 = .ok (.iload_n 3, 1) := by decide +kernel
theorem dX1_put_30 : decode cX1_put 30 = .ok (.ifCond .ne 12, 3) := by decide +kernel
theorem dX1_put_33 : decode cX1_put 33 = .ok (.aload_n 0, 1) := by decide +kernel
theorem dX1_put_34 : decode cX1_put 34 = .ok (.iload 5, 2) := by decide +kernel
theorem dX1_put_36 : decode cX1_put 36 = .ok (.invokevirtual 60, 3) := by decide +kernel
theorem dX1_put_39 : decode cX1_put 39 = .ok (.ifCond .ne 7, 3) := by decide +kernel
theorem dX1_put_42 : decode cX1_put 42 = .ok (.iconst 1, 1) := by decide +kernel
theorem dX1_put_43 : decode cX1_put 43 = .ok (.goto 4, 3) := by decide +kernel
theorem dX1_put_46 : decode cX1_put 46 = .ok (.iconst 0, 1) := by decide +kernel
theorem dX1_put_47 : decode cX1_put 47 = .ok (.istore 6, 2) := by decide +kernel
theorem dX1_put_49 : decode cX1_put 49 = .ok (.iload 6, 2) := by decide +kernel
theorem dX1_put_51 : decode cX1_put 51 = .ok (.ifCond .ne 13, 3) := by decide +kernel
theorem dX1_put_54 : decode cX1_put 54 = .ok (.aload_n 0, 1) := by decide +kernel
theorem dX1_put_55 : decode cX1_put 55 = .ok (.getfield 15, 3) := by decide +kernel
theorem dX1_put_58 : decode cX1_put 58 = .ok (.ifCond .ne 6, 3) := by decide +kernel
theorem dX1_put_61 : decode cX1_put 61 = .ok (.bipush (-5), 2) := by decide +kernel
theorem dX1_put_63 : decode cX1_put 63 = .ok (.ireturn, 1) := by decide +kernel
theorem dX1_put_64 : decode cX1_put 64 = .ok (.iload 6, 2) := by decide +kernel
theorem dX1_put_66 : decode cX1_put 66 = .ok (.ifCond .eq 12, 3) := by decide +kernel
theorem dX1_put_69 : decode cX1_put 69 = .ok (.aload_n 2, 1) := by decide +kernel
theorem dX1_put_70 : decode cX1_put 70 = .ok (.iload 5, 2) := by decide +kernel
theorem dX1_put_72 : decode cX1_put 72 = .ok (.invokevirtual 50, 3) := by decide +kernel
theorem dX1_put_75 : decode cX1_put 75 = .ok (.goto 10, 3) := by decide +kernel
theorem dX1_put_78 : decode cX1_put 78 = .ok (.aload_n 0, 1) := by decide +kernel
theorem dX1_put_79 : decode cX1_put 79 = .ok (.iload 5, 2) := by decide +kernel
theorem dX1_put_81 : decode cX1_put 81 = .ok (.aload_n 2, 1) := by decide +kernel
theorem dX1_put_82 : decode cX1_put 82 = .ok (.invokevirtual 63, 3) := by decide +kernel
theorem dX1_put_85 : decode cX1_put 85 = .ok (.iinc 4 1, 3) := by decide +kernel
theorem dX1_put_88 : decode cX1_put 88 = .ok (.goto (-76), 3) := by decide +kernel
theorem dX1_put_91 : decode cX1_put 91 = .ok (.aload_n 0, 1) := by decide +kernel
theorem dX1_put_92 : decode cX1_put 92 = .ok (.aload_n 2, 1) := by decide +kernel
theorem dX1_put_93 : decode cX1_put 93 = .ok (.invokevirtual 57, 3) := by decide +kernel
theorem dX1_put_96 : decode cX1_put 96 = .ok (.aload_n 2, 1) := by decide +kernel
theorem dX1_put_97 : decode cX1_put 97 = .ok (.invokevirtual 67, 3) := by decide +kernel
theorem dX1_put_100 : decode cX1_put 100 = .ok (.ifCond .eq 8, 3) := by decide +kernel
theorem dX1_put_103 : decode cX1_put 103 = .ok (.bipush (-7), 2) := by decide +kernel
theorem dX1_put_105 : decode cX1_put 105 = .ok (.goto 7, 3) := by decide +kernel
theorem dX1_put_108 : decode cX1_put 108 = .ok (.aload_n 2, 1) := by decide +kernel
theorem dX1_put_109 : decode cX1_put 109 = .ok (.invokevirtual 46, 3) := by decide +kernel
theorem dX1_put_112 : decode cX1_put 112 = .ok (.ireturn, 1) := by decide +kernel
theorem dX1_meansSomething_0 : decode cX1_meansSomething 0 = .ok (.iload_n 1, 1) := by decide +kernel
theorem dX1_meansSomething_1 : decode cX1_meansSomething 1 = .ok (.aload_n 0, 1) := by decide +kernel
theorem dX1_meansSomething_2 : decode cX1_meansSomething 2 = .ok (.getfield 9, 3) := by decide +kernel
theorem dX1_meansSomething_5 : decode cX1_meansSomething 5 = .ok (.if_icmp .eq 24, 3) := by decide +kernel
theorem dX1_meansSomething_8 : decode cX1_meansSomething 8 = .ok (.iload_n 1, 1) := by decide +kernel
theorem dX1_meansSomething_9 : decode cX1_meansSomething 9 = .ok (.aload_n 0, 1) := by decide +kernel
theorem dX1_meansSomething_10 : decode cX1_meansSomething 10 = .ok (.getfield 18, 3) := by decide +kernel
theorem dX1_meansSomething_13 : decode cX1_meansSomething 13 = .ok (.if_icmp .eq 16, 3) := by decide +kernel
theorem dX1_meansSomething_16 : decode cX1_meansSomething 16 = .ok (.aload_n 0, 1) := by decide +kernel
theorem dX1_meansSomething_17 : decode cX1_meansSomething 17 = .ok (.getfield 26, 3) := by decide +kernel
theorem dX1_meansSomething_20 : decode cX1_meansSomething 20 = .ok (.iload_n 1, 1) := by decide +kernel
theorem dX1_meansSomething_21 : decode cX1_meansSomething 21 = .ok (.bipush 6, 2) := by decide +kernel
theorem dX1_meansSomething_23 : decode cX1_meansSomething 23 = .ok (.invokevirtual 71, 3) := by decide +kernel
theorem dX1_meansSomething_26 : decode cX1_meansSomething 26 = .ok (.ifCond .eq 7, 3) := by decide +kernel
theorem dX1_meansSomething_29 : decode cX1_meansSomething 29 = .ok (.iconst 1, 1) := by decide +kernel
theorem dX1_meansSomething_30 : decode cX1_meansSomething 30 = .ok (.goto 4, 3) := by decide +kernel
theorem dX1_meansSomething_33 : decode cX1_meansSomething 33 = .ok (.iconst 0, 1) := by decide +kernel
theorem dX1_meansSomething_34 : decode cX1_meansSomething 34 = .ok (.ireturn, 1) := by decide +kernel
theorem dX1_addMark_0 : decode cX1_addMark 0 = .ok (.aload_n 0, 1) := by decide +kernel
theorem dX1_addMark_1 : decode cX1_addMark 1 = .ok (.getfield 9, 3) := by decide +kernel
theorem dX1_addMark_4 : decode cX1_addMark 4 = .ok (.bipush (-6), 2) := by decide +kernel
theorem dX1_addMark_6 : decode cX1_addMark 6 = .ok (.if_icmp .eq 11, 3) := by decide +kernel
theorem dX1_addMark_9 : decode cX1_addMark 9 = .ok (.aload_n 1, 1) := by decide +kernel
theorem dX1_addMark_10 : decode cX1_addMark 10 = .ok (.aload_n 0, 1) := by decide +kernel
theorem dX1_addMark_11 : decode cX1_addMark 11 = .ok (.getfield 9, 3) := by decide +kernel
theorem dX1_addMark_14 : decode cX1_addMark 14 = .ok (.invokevirtual 50, 3) := by decide +kernel
theorem dX1_addMark_17 : decode cX1_addMark 17 = .ok (.return_, 1) := by decide +kernel
theorem dX1_putMasked_0 : decode cX1_putMasked 0 = .ok (.aload_n 0, 1) := by decide +kernel
theorem dX1_putMasked_1 : decode cX1_putMasked 1 = .ok (.getfield 15, 3) := by decide +kernel
theorem dX1_putMasked_4 : decode cX1_putMasked 4 = .ok (.iconst 3, 1) := by decide +kernel
theorem dX1_putMasked_5 : decode cX1_putMasked 5 = .ok (.if_icmp .ne 35, 3) := by decide +kernel
theorem dX1_putMasked_8 : decode cX1_putMasked 8 = .ok (.aload_n 2, 1) := by decide +kernel
theorem dX1_putMasked_9 : decode cX1_putMasked 9 = .ok (.aload_n 0, 1) := by decide +kernel
theorem dX1_putMasked_10 : decode cX1_putMasked 10 = .ok (.getfield 18, 3) := by decide +kernel
theorem dX1_putMasked_13 : decode cX1_putMasked 13 = .ok (.invokevirtual 50, 3) := by decide +kernel
theorem dX1_putMasked_16 : decode cX1_putMasked 16 = .ok (.aload_n 2, 1) := by decide +kernel
theorem dX1_putMasked_17 : decode cX1_putMasked 17 = .ok (.iload_n 1, 1) := by decide +kernel
theorem dX1_putMasked_18 : decode cX1_putMasked 18 = .ok (.iconst 4, 1) := by decide +kernel
theorem dX1_putMasked_19 : decode cX1_putMasked 19 = .ok (.ishr, 1) := by decide +kernel
theorem dX1_putMasked_20 : decode cX1_putMasked 20 = .ok (.invokestatic 75, 3) := by decide +kernel
theorem dX1_putMasked_23 : decode cX1_putMasked 23 = .ok (.invokevirtual 50, 3) := by decide +kernel
theorem dX1_putMasked_26 : decode cX1_putMasked 26 = .ok (.aload_n 2, 1) := by decide +kernel
theorem dX1_putMasked_27 : decode cX1_putMasked 27 = .ok (.iload_n 1, 1) := by decide +kernel
theorem dX1_putMasked_28 : decode cX1_putMasked 28 = .ok (.bipush 15, 2) := by decide +kernel
theorem dX1_putMasked_30 : decode cX1_putMasked 30 = .ok (.iand, 1) := by decide +kernel
theorem dX1_putMasked_31 : decode cX1_putMasked 31 = .ok (.invokestatic 75, 3) := by decide +kernel
theorem dX1_putMasked_34 : decode cX1_putMasked 34 = .ok (.invokevirtual 50, 3) := by decide +kernel
theorem dX1_putMasked_37 : decode cX1_putMasked 37 = .ok (.goto 31, 3) := by decide +kernel
theorem dX1_putMasked_40 : decode cX1_putMasked 40 = .ok (.aload_n 2, 1) := by decide +kernel
theorem dX1_putMasked_41 : decode cX1_putMasked 41 = .ok (.aload_n 0, 1) := by decide +kernel
theorem dX1_putMasked_42 : decode cX1_putMasked 42 = .ok (.getfield 15, 3) := by decide +kernel
theorem dX1_putMasked_45 : decode cX1_putMasked 45 = .ok (.iconst 1, 1) := by decide +kernel
theorem dX1_putMasked_46 : decode cX1_putMasked 46 = .ok (.if_icmp .ne 10, 3) := by decide +kernel
theorem dX1_putMasked_49 : decode cX1_putMasked 49 = .ok (.aload_n 0, 1) := by decide +kernel
theorem dX1_putMasked_50 : decode cX1_putMasked 50 = .ok (.getfield 18, 3) := by decide +kernel
theorem dX1_putMasked_53 : decode cX1_putMasked 53 = .ok (.goto 7, 3) := by decide +kernel
theorem dX1_putMasked_56 : decode cX1_putMasked 56 = .ok (.aload_n 0, 1) := by decide +kernel
theorem dX1_putMasked_57 : decode cX1_putMasked 57 = .ok (.getfield 9, 3) := by decide +kernel
theorem dX1_putMasked_60 : decode cX1_putMasked 60 = .ok (.invokevirtual 50, 3) := by decide +kernel
theorem dX1_putMasked_63 : decode cX1_putMasked 63 = .ok (.aload_n 2, 1) := by decide +kernel
theorem dX1_putMasked_64 : decode cX1_putMasked 64 = .ok (.iload_n 1, 1) := by decide +kernel
theorem dX1_putMasked_65 : decode cX1_putMasked 65 = .ok (.invokevirtual 50, 3) := by decide +kernel
theorem dX1_putMasked_68 : decode cX1_putMasked 68 = .ok (.return_, 1) := by decide +kernel
theorem dX1_takeOff_0 : decode cX1_takeOff 0 = .ok (.aload_n 2, 1) := by decide +kernel
theorem dX1_takeOff_1 : decode cX1_takeOff 1 = .ok (.invokevirtual 38, 3) := by decide +kernel
theorem dX1_takeOff_4 : decode cX1_takeOff 4 = .ok (.aload_n 0, 1) := by decide +kernel
theorem dX1_takeOff_5 : decode cX1_takeOff 5 = .ok (.getfield 9, 3) := by decide +kernel
theorem dX1_takeOff_8 : decode cX1_takeOff 8 = .ok (.bipush (-6), 2) := by decide +kernel
theorem dX1_takeOff_10 : decode cX1_takeOff 10 = .ok (.if_icmp .eq 17, 3) := by decide +kernel
theorem dX1_takeOff_13 : decode cX1_takeOff 13 = .ok (.aload_n 1, 1) := by decide +kernel
theorem dX1_takeOff_14 : decode cX1_takeOff 14 = .ok (.iconst 0, 1) := by decide +kernel
theorem dX1_takeOff_15 : decode cX1_takeOff 15 = .ok (.invokevirtual 30, 3) := by decide +kernel
theorem dX1_takeOff_18 : decode cX1_takeOff 18 = .ok (.aload_n 0, 1) := by decide +kernel
theorem dX1_takeOff_19 : decode cX1_takeOff 19 = .ok (.getfield 9, 3) := by decide +kernel
theorem dX1_takeOff_22 : decode cX1_takeOff 22 = .ok (.if_icmp .eq 5, 3) := by decide +kernel
theorem dX1_takeOff_25 : decode cX1_takeOff 25 = .ok (.iconst 0, 1) := by decide +kernel
theorem dX1_takeOff_26 : decode cX1_takeOff 26 = .ok (.ireturn, 1) := by decide +kernel
theorem dX1_takeOff_27 : decode cX1_takeOff 27 = .ok (.aload_n 0, 1) := by decide +kernel
theorem dX1_takeOff_28 : decode cX1_takeOff 28 = .ok (.getfield 9, 3) := by decide +kernel
theorem dX1_takeOff_31 : decode cX1_takeOff 31 = .ok (.bipush (-6), 2) := by decide +kernel
theorem dX1_takeOff_33 : decode cX1_takeOff 33 = .ok (.if_icmp .ne 7, 3) := by decide +kernel
theorem dX1_takeOff_36 : decode cX1_takeOff 36 = .ok (.iconst 0, 1) := by decide +kernel
theorem dX1_takeOff_37 : decode cX1_takeOff 37 = .ok (.goto 4, 3) := by decide +kernel
theorem dX1_takeOff_40 : decode cX1_takeOff 40 = .ok (.iconst 1, 1) := by decide +kernel
theorem dX1_takeOff_41 : decode cX1_takeOff 41 = .ok (.istore_n 3, 1) := by decide +kernel
theorem dX1_takeOff_42 : decode cX1_takeOff 42 = .ok (.iconst 0, 1) := by decide +kernel
theorem dX1_takeOff_43 : decode cX1_takeOff 43 = .ok (.istore 4, 2) := by decide +kernel
theorem dX1_takeOff_45 : decode cX1_takeOff 45 = .ok (.iload_n 3, 1) := by decide +kernel
theorem dX1_takeOff_46 : decode cX1_takeOff 46 = .ok (.aload_n 1, 1) := by decide +kernel
theorem dX1_takeOff_47 : decode cX1_takeOff 47 = .ok (.invokevirtual 46, 3) := by decide +kernel
theorem dX1_takeOff_50 : decode cX1_takeOff 50 = .ok (.if_icmp .ge 80, 3) := by decide +kernel
theorem dX1_takeOff_53 : decode cX1_takeOff 53 = .ok (.iload 4, 2) := by decide +kernel
theorem dX1_takeOff_55 : decode cX1_takeOff 55 = .ok (.sipush 400, 3) := by decide +kernel
theorem dX1_takeOff_58 : decode cX1_takeOff 58 = .ok (.if_icmp .ge 72, 3) := by decide +kernel
theorem dX1_takeOff_61 : decode cX1_takeOff 61 = .ok (.aload_n 0, 1) := by decide +kernel
theorem dX1_takeOff_62 : decode cX1_takeOff 62 = .ok (.aload_n 1, 1) := by decide +kernel
theorem dX1_takeOff_63 : decode cX1_takeOff 63 = .ok (.iload_n 3, 1) := by decide +kernel
theorem dX1_takeOff_64 : decode cX1_takeOff 64 = .ok (.invokevirtual 78, 3) := by decide +kernel
theorem dX1_takeOff_67 : decode cX1_takeOff 67 = .ok (.ifCond .eq 22, 3) := by decide +kernel
theorem dX1_takeOff_70 : decode cX1_takeOff 70 = .ok (.iload_n 3, 1) := by decide +kernel
theorem dX1_takeOff_71 : decode cX1_takeOff 71 = .ok (.iconst 1, 1) := by decide +kernel
theorem dX1_takeOff_72 : decode cX1_takeOff 72 = .ok (.iadd, 1) := by decide +kernel
theorem dX1_takeOff_73 : decode cX1_takeOff 73 = .ok (.aload_n 1, 1) := by decide +kernel
theorem dX1_takeOff_74 : decode cX1_takeOff 74 = .ok (.invokevirtual 46, 3) := by decide +kernel
theorem dX1_takeOff_77 : decode cX1_takeOff 77 = .ok (.if_icmp .ge 9, 3) := by decide +kernel
theorem dX1_takeOff_80 : decode cX1_takeOff 80 = .ok (.iload_n 3, 1) := by decide +kernel
theorem dX1_takeOff_81 : decode cX1_takeOff 81 = .ok (.iconst 1, 1) := by decide +kernel
theorem dX1_takeOff_82 : decode cX1_takeOff 82 = .ok (.iadd, 1) := by decide +kernel
theorem dX1_takeOff_83 : decode cX1_takeOff 83 = .ok (.goto 5, 3) := by decide +kernel
theorem dX1_takeOff_86 : decode cX1_takeOff 86 = .ok (.bipush (-6), 2) := by decide +kernel
theorem dX1_takeOff_88 : decode cX1_takeOff 88 = .ok (.ireturn, 1) := by decide +kernel
theorem dX1_takeOff_89 : decode cX1_takeOff 89 = .ok (.aload_n 0, 1) := by decide +kernel
theorem dX1_takeOff_90 : decode cX1_takeOff 90 = .ok (.aload_n 1, 1) := by decide +kernel
theorem dX1_takeOff_91 : decode cX1_takeOff 91 = .ok (.iload_n 3, 1) := by decide +kernel
theorem dX1_takeOff_92 : decode cX1_takeOff 92 = .ok (.invokevirtual 82, 3) := by decide +kernel
theorem dX1_takeOff_95 : decode cX1_takeOff 95 = .ok (.istore 5, 2) := by decide +kernel
theorem dX1_takeOff_97 : decode cX1_takeOff 97 = .ok (.iload 5, 2) := by decide +kernel
theorem dX1_takeOff_99 : decode cX1_takeOff 99 = .ok (.bipush (-6), 2) := by decide +kernel
theorem dX1_takeOff_101 : decode cX1_takeOff 101 = .ok (.if_icmp .ne 5, 3) := by decide +kernel
theorem dX1_takeOff_104 : decode cX1_takeOff 104 = .ok (.iload_n 3, 1) := by decide +kernel
theorem dX1_takeOff_105 : decode cX1_takeOff 105 = .ok (.ireturn, 1) := by decide +kernel
theorem dX1_takeOff_106 : decode cX1_takeOff 106 = .ok (.aload_n 2, 1) := by decide +kernel
theorem dX1_takeOff_107 : decode cX1_takeOff 107 = .ok (.iload 5, 2) := by decide +kernel
theorem dX1_takeOff_109 : decode cX1_takeOff 109 = .ok (.invokevirtual 50, 3) := by decide +kernel
theorem dX1_takeOff_112 : decode cX1_takeOff 112 = .ok (.iload_n 3, 1) := by decide +kernel
theorem dX1_takeOff_113 : decode cX1_takeOff 113 = .ok (.aload_n 0, 1) := by decide +kernel
theorem dX1_takeOff_114 : decode cX1_takeOff 114 = .ok (.aload_n 1, 1) := by decide +kernel
theorem dX1_takeOff_115 : decode cX1_takeOff 115 = .ok (.iload_n 3, 1) := by decide +kernel
theorem dX1_takeOff_116 : decode cX1_takeOff 116 = .ok (.invokevirtual 30, 3) := by decide +kernel
theorem dX1_takeOff_119 : decode cX1_takeOff 119 = .ok (.invokevirtual 86, 3) := by decide +kernel
theorem dX1_takeOff_122 : decode cX1_takeOff 122 = .ok (.iadd, 1) := by decide +kernel
theorem dX1_takeOff_123 : decode cX1_takeOff 123 = .ok (.istore_n 3, 1) := by decide +kernel
theorem dX1_takeOff_124 : decode cX1_takeOff 124 = .ok (.iinc 4 1, 3) := by decide +kernel
theorem dX1_takeOff_127 : decode cX1_takeOff 127 = .ok (.goto (-82), 3) := by decide +kernel
theorem dX1_takeOff_130 : decode cX1_takeOff 130 = .ok (.aload_n 0, 1) := by decide +kernel
theorem dX1_takeOff_131 : decode cX1_takeOff 131 = .ok (.getfield 9, 3) := by decide +kernel
theorem dX1_takeOff_134 : decode cX1_takeOff 134 = .ok (.bipush (-6), 2) := by decide +kernel
theorem dX1_takeOff_136 : decode cX1_takeOff 136 = .ok (.if_icmp .ne 8, 3) := by decide +kernel
theorem dX1_takeOff_139 : decode cX1_takeOff 139 = .ok (.bipush (-6), 2) := by decide +kernel
theorem dX1_takeOff_141 : decode cX1_takeOff 141 = .ok (.goto 7, 3) := by decide +kernel
theorem dX1_takeOff_144 : decode cX1_takeOff 144 = .ok (.aload_n 1, 1) := by decide +kernel
theorem dX1_takeOff_145 : decode cX1_takeOff 145 = .ok (.invokevirtual 46, 3) := by decide +kernel
theorem dX1_takeOff_148 : decode cX1_takeOff 148 = .ok (.ireturn, 1) := by decide +kernel
theorem dX1_endsAt_0 : decode cX1_endsAt 0 = .ok (.aload_n 1, 1) := by decide +kernel
theorem dX1_endsAt_1 : decode cX1_endsAt 1 = .ok (.iload_n 2, 1) := by decide +kernel
theorem dX1_endsAt_2 : decode cX1_endsAt 2 = .ok (.invokevirtual 30, 3) := by decide +kernel
theorem dX1_endsAt_5 : decode cX1_endsAt 5 = .ok (.aload_n 0, 1) := by decide +kernel
theorem dX1_endsAt_6 : decode cX1_endsAt 6 = .ok (.getfield 9, 3) := by decide +kernel
theorem dX1_endsAt_9 : decode cX1_endsAt 9 = .ok (.if_icmp .ne 29, 3) := by decide +kernel
theorem dX1_endsAt_12 : decode cX1_endsAt 12 = .ok (.aload_n 0, 1) := by decide +kernel
theorem dX1_endsAt_13 : decode cX1_endsAt 13 = .ok (.getfield 15, 3) := by decide +kernel
theorem dX1_endsAt_16 : decode cX1_endsAt 16 = .ok (.iconst 2, 1) := by decide +kernel
theorem dX1_endsAt_17 : decode cX1_endsAt 17 = .ok (.if_icmp .ne 17, 3) := by decide +kernel
theorem dX1_endsAt_20 : decode cX1_endsAt 20 = .ok (.aload_n 1, 1) := by decide +kernel
theorem dX1_endsAt_21 : decode cX1_endsAt 21 = .ok (.iload_n 2, 1) := by decide +kernel
theorem dX1_endsAt_22 : decode cX1_endsAt 22 = .ok (.iconst 1, 1) := by decide +kernel
theorem dX1_endsAt_23 : decode cX1_endsAt 23 = .ok (.iadd, 1) := by decide +kernel
theorem dX1_endsAt_24 : decode cX1_endsAt 24 = .ok (.invokevirtual 30, 3) := by decide +kernel
theorem dX1_endsAt_27 : decode cX1_endsAt 27 = .ok (.aload_n 0, 1) := by decide +kernel
theorem dX1_endsAt_28 : decode cX1_endsAt 28 = .ok (.getfield 9, 3) := by decide +kernel
theorem dX1_endsAt_31 : decode cX1_endsAt 31 = .ok (.if_icmp .eq 7, 3) := by decide +kernel
theorem dX1_endsAt_34 : decode cX1_endsAt 34 = .ok (.iconst 1, 1) := by decide +kernel
theorem dX1_endsAt_35 : decode cX1_endsAt 35 = .ok (.goto 4, 3) := by decide +kernel
theorem dX1_endsAt_38 : decode cX1_endsAt 38 = .ok (.iconst 0, 1) := by decide +kernel
theorem dX1_endsAt_39 : decode cX1_endsAt 39 = .ok (.ireturn, 1) := by decide +kernel
theorem dX1_meantAt_0 : decode cX1_meantAt 0 = .ok (.aload_n 1, 1) := by decide +kernel
theorem dX1_meantAt_1 : decode cX1_meantAt 1 = .ok (.iload_n 2, 1) := by decide +kernel
theorem dX1_meantAt_2 : decode cX1_meantAt 2 = .ok (.invokevirtual 30, 3) := by decide +kernel
theorem dX1_meantAt_5 : decode cX1_meantAt 5 = .ok (.istore_n 3, 1) := by decide +kernel
theorem dX1_meantAt_6 : decode cX1_meantAt 6 = .ok (.iload_n 3, 1) := by decide +kernel
theorem dX1_meantAt_7 : decode cX1_meantAt 7 = .ok (.aload_n 0, 1) := by decide +kernel
theorem dX1_meantAt_8 : decode cX1_meantAt 8 = .ok (.getfield 18, 3) := by decide +kernel
theorem dX1_meantAt_11 : decode cX1_meantAt 11 = .ok (.if_icmp .eq 23, 3) := by decide +kernel
theorem dX1_meantAt_14 : decode cX1_meantAt 14 = .ok (.aload_n 0, 1) := by decide +kernel
theorem dX1_meantAt_15 : decode cX1_meantAt 15 = .ok (.getfield 26, 3) := by decide +kernel
theorem dX1_meantAt_18 : decode cX1_meantAt 18 = .ok (.iload_n 3, 1) := by decide +kernel
theorem dX1_meantAt_19 : decode cX1_meantAt 19 = .ok (.bipush 6, 2) := by decide +kernel
theorem dX1_meantAt_21 : decode cX1_meantAt 21 = .ok (.invokevirtual 71, 3) := by decide +kernel
theorem dX1_meantAt_24 : decode cX1_meantAt 24 = .ok (.ifCond .eq 8, 3) := by decide +kernel
theorem dX1_meantAt_27 : decode cX1_meantAt 27 = .ok (.bipush (-6), 2) := by decide +kernel
theorem dX1_meantAt_29 : decode cX1_meantAt 29 = .ok (.goto 4, 3) := by decide +kernel
theorem dX1_meantAt_32 : decode cX1_meantAt 32 = .ok (.iload_n 3, 1) := by decide +kernel
theorem dX1_meantAt_33 : decode cX1_meantAt 33 = .ok (.ireturn, 1) := by decide +kernel
theorem dX1_meantAt_34 : decode cX1_meantAt 34 = .ok (.aload_n 0, 1) := by decide +kernel
theorem dX1_meantAt_35 : decode cX1_meantAt 35 = .ok (.getfield 15, 3) := by decide +kernel
theorem dX1_meantAt_38 : decode cX1_meantAt 38 = .ok (.iconst 1, 1) := by decide +kernel
theorem dX1_meantAt_39 : decode cX1_meantAt 39 = .ok (.if_icmp .ne 11, 3) := by decide +kernel
theorem dX1_meantAt_42 : decode cX1_meantAt 42 = .ok (.aload_n 1, 1) := by decide +kernel
theorem dX1_meantAt_43 : decode cX1_meantAt 43 = .ok (.iload_n 2, 1) := by decide +kernel
theorem dX1_meantAt_44 : decode cX1_meantAt 44 = .ok (.iconst 1, 1) := by decide +kernel
theorem dX1_meantAt_45 : decode cX1_meantAt 45 = .ok (.iadd, 1) := by decide +kernel
theorem dX1_meantAt_46 : decode cX1_meantAt 46 = .ok (.invokevirtual 30, 3) := by decide +kernel
theorem dX1_meantAt_49 : decode cX1_meantAt 49 = .ok (.ireturn, 1) := by decide +kernel
theorem dX1_meantAt_50 : decode cX1_meantAt 50 = .ok (.aload_n 1, 1) := by decide +kernel
theorem dX1_meantAt_51 : decode cX1_meantAt 51 = .ok (.iload_n 2, 1) := by decide +kernel
theorem dX1_meantAt_52 : decode cX1_meantAt 52 = .ok (.iconst 1, 1) := by decide +kernel
theorem dX1_meantAt_53 : decode cX1_meantAt 53 = .ok (.iadd, 1) := by decide +kernel
theorem dX1_meantAt_54 : decode cX1_meantAt 54 = .ok (.invokevirtual 30, 3) := by decide +kernel
theorem dX1_meantAt_57 : decode cX1_meantAt 57 = .ok (.invokestatic 89, 3) := by decide +kernel
theorem dX1_meantAt_60 : decode cX1_meantAt 60 = .ok (.istore 4, 2) := by decide +kernel
theorem dX1_meantAt_62 : decode cX1_meantAt 62 = .ok (.aload_n 1, 1) := by decide +kernel
theorem dX1_meantAt_63 : decode cX1_meantAt 63 = .ok (.iload_n 2, 1) := by decide +kernel
theorem dX1_meantAt_64 : decode cX1_meantAt 64 = .ok (.iconst 2, 1) := by decide +kernel
theorem dX1_meantAt_65 : decode cX1_meantAt 65 = .ok (.iadd, 1) := by decide +kernel
theorem dX1_meantAt_66 : decode cX1_meantAt 66 = .ok (.invokevirtual 30, 3) := by decide +kernel
theorem dX1_meantAt_69 : decode cX1_meantAt 69 = .ok (.invokestatic 89, 3) := by decide +kernel
theorem dX1_meantAt_72 : decode cX1_meantAt 72 = .ok (.istore 5, 2) := by decide +kernel
theorem dX1_meantAt_74 : decode cX1_meantAt 74 = .ok (.iload 4, 2) := by decide +kernel
theorem dX1_meantAt_76 : decode cX1_meantAt 76 = .ok (.ifCond .lt 8, 3) := by decide +kernel
theorem dX1_meantAt_79 : decode cX1_meantAt 79 = .ok (.iload 5, 2) := by decide +kernel
theorem dX1_meantAt_81 : decode cX1_meantAt 81 = .ok (.ifCond .ge 8, 3) := by decide +kernel
theorem dX1_meantAt_84 : decode cX1_meantAt 84 = .ok (.bipush (-6), 2) := by decide +kernel
theorem dX1_meantAt_86 : decode cX1_meantAt 86 = .ok (.goto 11, 3) := by decide +kernel
theorem dX1_meantAt_89 : decode cX1_meantAt 89 = .ok (.iload 4, 2) := by decide +kernel
theorem dX1_meantAt_91 : decode cX1_meantAt 91 = .ok (.bipush 16, 2) := by decide +kernel
theorem dX1_meantAt_93 : decode cX1_meantAt 93 = .ok (.imul, 1) := by decide +kernel
theorem dX1_meantAt_94 : decode cX1_meantAt 94 = .ok (.iload 5, 2) := by decide +kernel
theorem dX1_meantAt_96 : decode cX1_meantAt 96 = .ok (.iadd, 1) := by decide +kernel
theorem dX1_meantAt_97 : decode cX1_meantAt 97 = .ok (.istore 6, 2) := by decide +kernel
theorem dX1_meantAt_99 : decode cX1_meantAt 99 = .ok (.iload 6, 2) := by decide +kernel
theorem dX1_meantAt_101 : decode cX1_meantAt 101 = .ok (.invokestatic 92, 3) := by decide +kernel
theorem dX1_meantAt_104 : decode cX1_meantAt 104 = .ok (.ifCond .eq 8, 3) := by decide +kernel
theorem dX1_meantAt_107 : decode cX1_meantAt 107 = .ok (.iload 6, 2) := by decide +kernel
theorem dX1_meantAt_109 : decode cX1_meantAt 109 = .ok (.goto 5, 3) := by decide +kernel
theorem dX1_meantAt_112 : decode cX1_meantAt 112 = .ok (.bipush (-6), 2) := by decide +kernel
theorem dX1_meantAt_114 : decode cX1_meantAt 114 = .ok (.ireturn, 1) := by decide +kernel
theorem dX1_widthOf_0 : decode cX1_widthOf 0 = .ok (.iload_n 1, 1) := by decide +kernel
theorem dX1_widthOf_1 : decode cX1_widthOf 1 = .ok (.aload_n 0, 1) := by decide +kernel
theorem dX1_widthOf_2 : decode cX1_widthOf 2 = .ok (.getfield 18, 3) := by decide +kernel
theorem dX1_widthOf_5 : decode cX1_widthOf 5 = .ok (.if_icmp .ne 17, 3) := by decide +kernel
theorem dX1_widthOf_8 : decode cX1_widthOf 8 = .ok (.aload_n 0, 1) := by decide +kernel
theorem dX1_widthOf_9 : decode cX1_widthOf 9 = .ok (.getfield 15, 3) := by decide +kernel
theorem dX1_widthOf_12 : decode cX1_widthOf 12 = .ok (.iconst 1, 1) := by decide +kernel
theorem dX1_widthOf_13 : decode cX1_widthOf 13 = .ok (.if_icmp .ne 7, 3) := by decide +kernel
theorem dX1_widthOf_16 : decode cX1_widthOf 16 = .ok (.iconst 2, 1) := by decide +kernel
theorem dX1_widthOf_17 : decode cX1_widthOf 17 = .ok (.goto 4, 3) := by decide +kernel
theorem dX1_widthOf_20 : decode cX1_widthOf 20 = .ok (.iconst 3, 1) := by decide +kernel
theorem dX1_widthOf_21 : decode cX1_widthOf 21 = .ok (.ireturn, 1) := by decide +kernel
theorem dX1_widthOf_22 : decode cX1_widthOf 22 = .ok (.iload_n 1, 1) := by decide +kernel
theorem dX1_widthOf_23 : decode cX1_widthOf 23 = .ok (.aload_n 0, 1) := by decide +kernel
theorem dX1_widthOf_24 : decode cX1_widthOf 24 = .ok (.getfield 9, 3) := by decide +kernel
theorem dX1_widthOf_27 : decode cX1_widthOf 27 = .ok (.if_icmp .ne 7, 3) := by decide +kernel
theorem dX1_widthOf_30 : decode cX1_widthOf 30 = .ok (.iconst 2, 1) := by decide +kernel
theorem dX1_widthOf_31 : decode cX1_widthOf 31 = .ok (.goto 4, 3) := by decide +kernel
theorem dX1_widthOf_34 : decode cX1_widthOf 34 = .ok (.iconst 1, 1) := by decide +kernel
theorem dX1_widthOf_35 : decode cX1_widthOf 35 = .ok (.ireturn, 1) := by decide +kernel
theorem dX1_digitOf_0 : decode cX1_digitOf 0 = .ok (.iload_n 0, 1) := by decide +kernel
theorem dX1_digitOf_1 : decode cX1_digitOf 1 = .ok (.bipush 10, 2) := by decide +kernel
theorem dX1_digitOf_3 : decode cX1_digitOf 3 = .ok (.if_icmp .ge 10, 3) := by decide +kernel
theorem dX1_digitOf_6 : decode cX1_digitOf 6 = .ok (.bipush 48, 2) := by decide +kernel
theorem dX1_digitOf_8 : decode cX1_digitOf 8 = .ok (.iload_n 0, 1) := by decide +kernel
theorem dX1_digitOf_9 : decode cX1_digitOf 9 = .ok (.iadd, 1) := by decide +kernel
theorem dX1_digitOf_10 : decode cX1_digitOf 10 = .ok (.goto 10, 3) := by decide +kernel
theorem dX1_digitOf_13 : decode cX1_digitOf 13 = .ok (.bipush 97, 2) := by decide +kernel
theorem dX1_digitOf_15 : decode cX1_digitOf 15 = .ok (.iload_n 0, 1) := by decide +kernel
theorem dX1_digitOf_16 : decode cX1_digitOf 16 = .ok (.iadd, 1) := by decide +kernel
theorem dX1_digitOf_17 : decode cX1_digitOf 17 = .ok (.bipush 10, 2) := by decide +kernel
theorem dX1_digitOf_19 : decode cX1_digitOf 19 = .ok (.isub, 1) := by decide +kernel
theorem dX1_digitOf_20 : decode cX1_digitOf 20 = .ok (.ireturn, 1) := by decide +kernel
theorem dX1_valueOfDigit_0 : decode cX1_valueOfDigit 0 = .ok (.iload_n 0, 1) := by decide +kernel
theorem dX1_valueOfDigit_1 : decode cX1_valueOfDigit 1 = .ok (.bipush 48, 2) := by decide +kernel
theorem dX1_valueOfDigit_3 : decode cX1_valueOfDigit 3 = .ok (.if_icmp .lt 14, 3) := by decide +kernel
theorem dX1_valueOfDigit_6 : decode cX1_valueOfDigit 6 = .ok (.iload_n 0, 1) := by decide +kernel
theorem dX1_valueOfDigit_7 : decode cX1_valueOfDigit 7 = .ok (.bipush 57, 2) := by decide +kernel
theorem dX1_valueOfDigit_9 : decode cX1_valueOfDigit 9 = .ok (.if_icmp .gt 8, 3) := by decide +kernel
theorem dX1_valueOfDigit_12 : decode cX1_valueOfDigit 12 = .ok (.iload_n 0, 1) := by decide +kernel
theorem dX1_valueOfDigit_13 : decode cX1_valueOfDigit 13 = .ok (.bipush 48, 2) := by decide +kernel
theorem dX1_valueOfDigit_15 : decode cX1_valueOfDigit 15 = .ok (.isub, 1) := by decide +kernel
theorem dX1_valueOfDigit_16 : decode cX1_valueOfDigit 16 = .ok (.ireturn, 1) := by decide +kernel
theorem dX1_valueOfDigit_17 : decode cX1_valueOfDigit 17 = .ok (.iload_n 0, 1) := by decide +kernel
theorem dX1_valueOfDigit_18 : decode cX1_valueOfDigit 18 = .ok (.bipush 97, 2) := by decide +kernel
theorem dX1_valueOfDigit_20 : decode cX1_valueOfDigit 20 = .ok (.if_icmp .lt 19, 3) := by decide +kernel
theorem dX1_valueOfDigit_23 : decode cX1_valueOfDigit 23 = .ok (.iload_n 0, 1) := by decide +kernel
theorem dX1_valueOfDigit_24 : decode cX1_valueOfDigit 24 = .ok (.bipush 102, 2) := by decide +kernel
theorem dX1_valueOfDigit_26 : decode cX1_valueOfDigit 26 = .ok (.if_icmp .gt 13, 3) := by decide +kernel
theorem dX1_valueOfDigit_29 : decode cX1_valueOfDigit 29 = .ok (.iload_n 0, 1) := by decide +kernel
theorem dX1_valueOfDigit_30 : decode cX1_valueOfDigit 30 = .ok (.bipush 97, 2) := by decide +kernel
theorem dX1_valueOfDigit_32 : decode cX1_valueOfDigit 32 = .ok (.isub, 1) := by decide +kernel
theorem dX1_valueOfDigit_33 : decode cX1_valueOfDigit 33 = .ok (.bipush 10, 2) := by decide +kernel
theorem dX1_valueOfDigit_35 : decode cX1_valueOfDigit 35 = .ok (.iadd, 1) := by decide +kernel
theorem dX1_valueOfDigit_36 : decode cX1_valueOfDigit 36 = .ok (.goto 4, 3) := by decide +kernel
theorem dX1_valueOfDigit_39 : decode cX1_valueOfDigit 39 = .ok (.iconst (-1), 1) := by decide +kernel
theorem dX1_valueOfDigit_40 : decode cX1_valueOfDigit 40 = .ok (.ireturn, 1) := by decide +kernel
theorem dX2_faultIn_0 : decode cX2_faultIn 0 = .ok (.aload_n 0, 1) := by decide +kernel
theorem dX2_faultIn_1 : decode cX2_faultIn 1 = .ok (.iconst 0, 1) := by decide +kernel
theorem dX2_faultIn_2 : decode cX2_faultIn 2 = .ok (.invokevirtual 9, 3) := by decide +kernel
theorem dX2_faultIn_5 : decode cX2_faultIn 5 = .ok (.invokestatic 15, 3) := by decide +kernel
theorem dX2_faultIn_8 : decode cX2_faultIn 8 = .ok (.ifCond .ne 5, 3) := by decide +kernel
theorem dX2_faultIn_11 : decode cX2_faultIn 11 = .ok (.iconst 0, 1) := by decide +kernel
theorem dX2_faultIn_12 : decode cX2_faultIn 12 = .ok (.ireturn, 1) := by decide +kernel
theorem dX2_faultIn_13 : decode cX2_faultIn 13 = .ok (.aload_n 0, 1) := by decide +kernel
theorem dX2_faultIn_14 : decode cX2_faultIn 14 = .ok (.iconst 1, 1) := by decide +kernel
theorem dX2_faultIn_15 : decode cX2_faultIn 15 = .ok (.invokevirtual 9, 3) := by decide +kernel
theorem dX2_faultIn_18 : decode cX2_faultIn 18 = .ok (.aload_n 0, 1) := by decide +kernel
theorem dX2_faultIn_19 : decode cX2_faultIn 19 = .ok (.iconst 0, 1) := by decide +kernel
theorem dX2_faultIn_20 : decode cX2_faultIn 20 = .ok (.invokevirtual 9, 3) := by decide +kernel
theorem dX2_faultIn_23 : decode cX2_faultIn 23 = .ok (.invokestatic 21, 3) := by decide +kernel
theorem dX2_faultIn_26 : decode cX2_faultIn 26 = .ok (.ifCond .ne 5, 3) := by decide +kernel
theorem dX2_faultIn_29 : decode cX2_faultIn 29 = .ok (.iconst 1, 1) := by decide +kernel
theorem dX2_faultIn_30 : decode cX2_faultIn 30 = .ok (.ireturn, 1) := by decide +kernel
theorem dX2_faultIn_31 : decode cX2_faultIn 31 = .ok (.aload_n 0, 1) := by decide +kernel
theorem dX2_faultIn_32 : decode cX2_faultIn 32 = .ok (.iconst 1, 1) := by decide +kernel
theorem dX2_faultIn_33 : decode cX2_faultIn 33 = .ok (.invokevirtual 9, 3) := by decide +kernel
theorem dX2_faultIn_36 : decode cX2_faultIn 36 = .ok (.bipush 48, 2) := by decide +kernel
theorem dX2_faultIn_38 : decode cX2_faultIn 38 = .ok (.isub, 1) := by decide +kernel
theorem dX2_faultIn_39 : decode cX2_faultIn 39 = .ok (.istore_n 1, 1) := by decide +kernel
theorem dX2_faultIn_40 : decode cX2_faultIn 40 = .ok (.iload_n 1, 1) := by decide +kernel
theorem dX2_faultIn_41 : decode cX2_faultIn 41 = .ok (.invokestatic 25, 3) := by decide +kernel
theorem dX2_faultIn_44 : decode cX2_faultIn 44 = .ok (.ifCond .eq 13, 3) := by decide +kernel
theorem dX2_faultIn_47 : decode cX2_faultIn 47 = .ok (.aload_n 0, 1) := by decide +kernel
theorem dX2_faultIn_48 : decode cX2_faultIn 48 = .ok (.iconst 2, 1) := by decide +kernel
theorem dX2_faultIn_49 : decode cX2_faultIn 49 = .ok (.invokestatic 30, 3) := by decide +kernel
theorem dX2_faultIn_52 : decode cX2_faultIn 52 = .ok (.ifCond .ne 5, 3) := by decide +kernel
theorem dX2_faultIn_55 : decode cX2_faultIn 55 = .ok (.iconst 2, 1) := by decide +kernel
theorem dX2_faultIn_56 : decode cX2_faultIn 56 = .ok (.ireturn, 1) := by decide +kernel
theorem dX2_faultIn_57 : decode cX2_faultIn 57 = .ok (.iload_n 1, 1) := by decide +kernel
theorem dX2_faultIn_58 : decode cX2_faultIn 58 = .ok (.invokestatic 34, 3) := by decide +kernel
theorem dX2_faultIn_61 : decode cX2_faultIn 61 = .ok (.istore_n 2, 1) := by decide +kernel
theorem dX2_faultIn_62 : decode cX2_faultIn 62 = .ok (.iload_n 2, 1) := by decide +kernel
theorem dX2_faultIn_63 : decode cX2_faultIn 63 = .ok (.iload_n 1, 1) := by decide +kernel
theorem dX2_faultIn_64 : decode cX2_faultIn 64 = .ok (.iconst 2, 1) := by decide +kernel
theorem dX2_faultIn_65 : decode cX2_faultIn 65 = .ok (.if_icmp .ne 7, 3) := by decide +kernel
theorem dX2_faultIn_68 : decode cX2_faultIn 68 = .ok (.iconst 0, 1) := by decide +kernel
theorem dX2_faultIn_69 : decode cX2_faultIn 69 = .ok (.goto 5, 3) := by decide +kernel
theorem dX2_faultIn_72 : decode cX2_faultIn 72 = .ok (.bipush 6, 2) := by decide +kernel
theorem dX2_faultIn_74 : decode cX2_faultIn 74 = .ok (.iadd, 1) := by decide +kernel
theorem dX2_faultIn_75 : decode cX2_faultIn 75 = .ok (.istore_n 3, 1) := by decide +kernel
theorem dX2_faultIn_76 : decode cX2_faultIn 76 = .ok (.iload_n 2, 1) := by decide +kernel
theorem dX2_faultIn_77 : decode cX2_faultIn 77 = .ok (.istore 4, 2) := by decide +kernel
theorem dX2_faultIn_79 : decode cX2_faultIn 79 = .ok (.iload 4, 2) := by decide +kernel
theorem dX2_faultIn_81 : decode cX2_faultIn 81 = .ok (.aload_n 0, 1) := by decide +kernel
theorem dX2_faultIn_82 : decode cX2_faultIn 82 = .ok (.invokevirtual 37, 3) := by decide +kernel
theorem dX2_faultIn_85 : decode cX2_faultIn 85 = .ok (.if_icmp .ge 27, 3) := by decide +kernel
theorem dX2_faultIn_88 : decode cX2_faultIn 88 = .ok (.iload 4, 2) := by decide +kernel
theorem dX2_faultIn_90 : decode cX2_faultIn 90 = .ok (.iload_n 3, 1) := by decide +kernel
theorem dX2_faultIn_91 : decode cX2_faultIn 91 = .ok (.if_icmp .ge 12, 3) := by decide +kernel
theorem dX2_faultIn_94 : decode cX2_faultIn 94 = .ok (.aload_n 0, 1) := by decide +kernel
theorem dX2_faultIn_95 : decode cX2_faultIn 95 = .ok (.iload 4, 2) := by decide +kernel
theorem dX2_faultIn_97 : decode cX2_faultIn 97 = .ok (.invokestatic 30, 3) := by decide +kernel
theorem dX2_faultIn_100 : decode cX2_faultIn 100 = .ok (.ifCond .ne 6, 3) := by decide +kernel
theorem dX2_faultIn_103 : decode cX2_faultIn 103 = .ok (.iload 4, 2) := by decide +kernel
theorem dX2_faultIn_105 : decode cX2_faultIn 105 = .ok (.ireturn, 1) := by decide +kernel
theorem dX2_faultIn_106 : decode cX2_faultIn 106 = .ok (.iinc 4 1, 3) := by decide +kernel
theorem dX2_faultIn_109 : decode cX2_faultIn 109 = .ok (.goto (-30), 3) := by decide +kernel
theorem dX2_faultIn_112 : decode cX2_faultIn 112 = .ok (.bipush (-6), 2) := by decide +kernel
theorem dX2_faultIn_114 : decode cX2_faultIn 114 = .ok (.ireturn, 1) := by decide +kernel
theorem dX2_firstHeld_0 : decode cX2_firstHeld 0 = .ok (.iload_n 0, 1) := by decide +kernel
theorem dX2_firstHeld_1 : decode cX2_firstHeld 1 = .ok (.invokestatic 25, 3) := by decide +kernel
theorem dX2_firstHeld_4 : decode cX2_firstHeld 4 = .ok (.ifCond .eq 7, 3) := by decide +kernel
theorem dX2_firstHeld_7 : decode cX2_firstHeld 7 = .ok (.iconst 3, 1) := by decide +kernel
theorem dX2_firstHeld_8 : decode cX2_firstHeld 8 = .ok (.goto 4, 3) := by decide +kernel
theorem dX2_firstHeld_11 : decode cX2_firstHeld 11 = .ok (.iconst 2, 1) := by decide +kernel
theorem dX2_firstHeld_12 : decode cX2_firstHeld 12 = .ok (.ireturn, 1) := by decide +kernel
theorem dX2_canBeMark_0 : decode cX2_canBeMark 0 = .ok (.iload_n 0, 1) := by decide +kernel
theorem dX2_canBeMark_1 : decode cX2_canBeMark 1 = .ok (.invokestatic 41, 3) := by decide +kernel
theorem dX2_canBeMark_4 : decode cX2_canBeMark 4 = .ok (.ifCond .eq 14, 3) := by decide +kernel
theorem dX2_canBeMark_7 : decode cX2_canBeMark 7 = .ok (.iload_n 0, 1) := by decide +kernel
theorem dX2_canBeMark_8 : decode cX2_canBeMark 8 = .ok (.invokestatic 44, 3) := by decide +kernel
theorem dX2_canBeMark_11 : decode cX2_canBeMark 11 = .ok (.ifCond .ge 7, 3) := by decide +kernel
theorem dX2_canBeMark_14 : decode cX2_canBeMark 14 = .ok (.iconst 1, 1) := by decide +kernel
theorem dX2_canBeMark_15 : decode cX2_canBeMark 15 = .ok (.goto 4, 3) := by decide +kernel
theorem dX2_canBeMark_18 : decode cX2_canBeMark 18 = .ok (.iconst 0, 1) := by decide +kernel
theorem dX2_canBeMark_19 : decode cX2_canBeMark 19 = .ok (.ireturn, 1) := by decide +kernel
theorem dX2_canBeWay_0 : decode cX2_canBeWay 0 = .ok (.iload_n 0, 1) := by decide +kernel
theorem dX2_canBeWay_1 : decode cX2_canBeWay 1 = .ok (.bipush 50, 2) := by decide +kernel
theorem dX2_canBeWay_3 : decode cX2_canBeWay 3 = .ok (.if_icmp .ne 15, 3) := by decide +kernel
theorem dX2_canBeWay_6 : decode cX2_canBeWay 6 = .ok (.iload_n 1, 1) := by decide +kernel
theorem dX2_canBeWay_7 : decode cX2_canBeWay 7 = .ok (.bipush 45, 2) := by decide +kernel
theorem dX2_canBeWay_9 : decode cX2_canBeWay 9 = .ok (.if_icmp .eq 7, 3) := by decide +kernel
theorem dX2_canBeWay_12 : decode cX2_canBeWay 12 = .ok (.iconst 1, 1) := by decide +kernel
theorem dX2_canBeWay_13 : decode cX2_canBeWay 13 = .ok (.goto 4, 3) := by decide +kernel
theorem dX2_canBeWay_16 : decode cX2_canBeWay 16 = .ok (.iconst 0, 1) := by decide +kernel
theorem dX2_canBeWay_17 : decode cX2_canBeWay 17 = .ok (.ireturn, 1) := by decide +kernel
theorem dX2_canBeWay_18 : decode cX2_canBeWay 18 = .ok (.iload_n 0, 1) := by decide +kernel
theorem dX2_canBeWay_19 : decode cX2_canBeWay 19 = .ok (.bipush 48, 2) := by decide +kernel
theorem dX2_canBeWay_21 : decode cX2_canBeWay 21 = .ok (.if_icmp .lt 13, 3) := by decide +kernel
theorem dX2_canBeWay_24 : decode cX2_canBeWay 24 = .ok (.iload_n 0, 1) := by decide +kernel
theorem dX2_canBeWay_25 : decode cX2_canBeWay 25 = .ok (.bipush 51, 2) := by decide +kernel
theorem dX2_canBeWay_27 : decode cX2_canBeWay 27 = .ok (.if_icmp .gt 7, 3) := by decide +kernel
theorem dX2_canBeWay_30 : decode cX2_canBeWay 30 = .ok (.iconst 1, 1) := by decide +kernel
theorem dX2_canBeWay_31 : decode cX2_canBeWay 31 = .ok (.goto 4, 3) := by decide +kernel
theorem dX2_canBeWay_34 : decode cX2_canBeWay 34 = .ok (.iconst 0, 1) := by decide +kernel
theorem dX2_canBeWay_35 : decode cX2_canBeWay 35 = .ok (.ireturn, 1) := by decide +kernel
theorem dX2_isNewSign_0 : decode cX2_isNewSign 0 = .ok (.aload_n 0, 1) := by decide +kernel
theorem dX2_isNewSign_1 : decode cX2_isNewSign 1 = .ok (.iload_n 1, 1) := by decide +kernel
theorem dX2_isNewSign_2 : decode cX2_isNewSign 2 = .ok (.invokevirtual 9, 3) := by decide +kernel
theorem dX2_isNewSign_5 : decode cX2_isNewSign 5 = .ok (.istore_n 2, 1) := by decide +kernel
theorem dX2_isNewSign_6 : decode cX2_isNewSign 6 = .ok (.iload_n 2, 1) := by decide +kernel
theorem dX2_isNewSign_7 : decode cX2_isNewSign 7 = .ok (.invokestatic 15, 3) := by decide +kernel
theorem dX2_isNewSign_10 : decode cX2_isNewSign 10 = .ok (.ifCond .eq 22, 3) := by decide +kernel
theorem dX2_isNewSign_13 : decode cX2_isNewSign 13 = .ok (.iload_n 2, 1) := by decide +kernel
theorem dX2_isNewSign_14 : decode cX2_isNewSign 14 = .ok (.bipush 45, 2) := by decide +kernel
theorem dX2_isNewSign_16 : decode cX2_isNewSign 16 = .ok (.if_icmp .eq 16, 3) := by decide +kernel
theorem dX2_isNewSign_19 : decode cX2_isNewSign 19 = .ok (.aload_n 0, 1) := by decide +kernel
theorem dX2_isNewSign_20 : decode cX2_isNewSign 20 = .ok (.iload_n 2, 1) := by decide +kernel
theorem dX2_isNewSign_21 : decode cX2_isNewSign 21 = .ok (.iload_n 1, 1) := by decide +kernel
theorem dX2_isNewSign_22 : decode cX2_isNewSign 22 = .ok (.invokevirtual 47, 3) := by decide +kernel
theorem dX2_isNewSign_25 : decode cX2_isNewSign 25 = .ok (.ifCond .ne 7, 3) := by decide +kernel
theorem dX2_isNewSign_28 : decode cX2_isNewSign 28 = .ok (.iconst 1, 1) := by decide +kernel
theorem dX2_isNewSign_29 : decode cX2_isNewSign 29 = .ok (.goto 4, 3) := by decide +kernel
theorem dX2_isNewSign_32 : decode cX2_isNewSign 32 = .ok (.iconst 0, 1) := by decide +kernel
theorem dX2_isNewSign_33 : decode cX2_isNewSign 33 = .ok (.ireturn, 1) := by decide +kernel
theorem dX3_init_0 : decode cX3_init 0 = .ok (.aload_n 0, 1) := by decide +kernel
theorem dX3_init_1 : decode cX3_init 1 = .ok (.invokespecial 3, 3) := by decide +kernel
theorem dX3_init_4 : decode cX3_init 4 = .ok (.aload_n 0, 1) := by decide +kernel
theorem dX3_init_5 : decode cX3_init 5 = .ok (.new 9, 3) := by decide +kernel
theorem dX3_init_8 : decode cX3_init 8 = .ok (.dup, 1) := by decide +kernel
theorem dX3_init_9 : decode cX3_init 9 = .ok (.sipush 400, 3) := by decide +kernel
theorem dX3_init_12 : decode cX3_init 12 = .ok (.invokespecial 11, 3) := by decide +kernel
theorem dX3_init_15 : decode cX3_init 15 = .ok (.putfield 14, 3) := by decide +kernel
theorem dX3_init_18 : decode cX3_init 18 = .ok (.aload_n 0, 1) := by decide +kernel
theorem dX3_init_19 : decode cX3_init 19 = .ok (.new 9, 3) := by decide +kernel
theorem dX3_init_22 : decode cX3_init 22 = .ok (.dup, 1) := by decide +kernel
theorem dX3_init_23 : decode cX3_init 23 = .ok (.sipush 400, 3) := by decide +kernel
theorem dX3_init_26 : decode cX3_init 26 = .ok (.invokespecial 11, 3) := by decide +kernel
theorem dX3_init_29 : decode cX3_init 29 = .ok (.putfield 20, 3) := by decide +kernel
theorem dX3_init_32 : decode cX3_init 32 = .ok (.aload_n 0, 1) := by decide +kernel
theorem dX3_init_33 : decode cX3_init 33 = .ok (.iconst 0, 1) := by decide +kernel
theorem dX3_init_34 : decode cX3_init 34 = .ok (.putfield 23, 3) := by decide +kernel
theorem dX3_init_37 : decode cX3_init 37 = .ok (.aload_n 0, 1) := by decide +kernel
theorem dX3_init_38 : decode cX3_init 38 = .ok (.bipush (-6), 2) := by decide +kernel
theorem dX3_init_40 : decode cX3_init 40 = .ok (.putfield 27, 3) := by decide +kernel
theorem dX3_init_43 : decode cX3_init 43 = .ok (.aload_n 0, 1) := by decide +kernel
theorem dX3_init_44 : decode cX3_init 44 = .ok (.bipush (-6), 2) := by decide +kernel
theorem dX3_init_46 : decode cX3_init 46 = .ok (.putfield 31, 3) := by decide +kernel
theorem dX3_init_49 : decode cX3_init 49 = .ok (.return_, 1) := by decide +kernel
theorem dX3_here_0 : decode cX3_here 0 = .ok (.aload_n 0, 1) := by decide +kernel
theorem dX3_here_1 : decode cX3_here 1 = .ok (.getfield 23, 3) := by decide +kernel
theorem dX3_here_4 : decode cX3_here 4 = .ok (.ifCond .eq 10, 3) := by decide +kernel
theorem dX3_here_7 : decode cX3_here 7 = .ok (.aload_n 0, 1) := by decide +kernel
theorem dX3_here_8 : decode cX3_here 8 = .ok (.getfield 20, 3) := by decide +kernel
theorem dX3_here_11 : decode cX3_here 11 = .ok (.goto 7, 3) := by decide +kernel
theorem dX3_here_14 : decode cX3_here 14 = .ok (.aload_n 0, 1) := by decide +kernel
theorem dX3_here_15 : decode cX3_here 15 = .ok (.getfield 14, 3) := by decide +kernel
theorem dX3_here_18 : decode cX3_here 18 = .ok (.areturn, 1) := by decide +kernel
theorem dX3_there_0 : decode cX3_there 0 = .ok (.aload_n 0, 1) := by decide +kernel
theorem dX3_there_1 : decode cX3_there 1 = .ok (.getfield 23, 3) := by decide +kernel
theorem dX3_there_4 : decode cX3_there 4 = .ok (.ifCond .eq 10, 3) := by decide +kernel
theorem dX3_there_7 : decode cX3_there 7 = .ok (.aload_n 0, 1) := by decide +kernel
theorem dX3_there_8 : decode cX3_there 8 = .ok (.getfield 14, 3) := by decide +kernel
theorem dX3_there_11 : decode cX3_there 11 = .ok (.goto 7, 3) := by decide +kernel
theorem dX3_there_14 : decode cX3_there 14 = .ok (.aload_n 0, 1) := by decide +kernel
theorem dX3_there_15 : decode cX3_there 15 = .ok (.getfield 20, 3) := by decide +kernel
theorem dX3_there_18 : decode cX3_there 18 = .ok (.areturn, 1) := by decide +kernel
theorem dX3_step_0 : decode cX3_step 0 = .ok (.aload_n 0, 1) := by decide +kernel
theorem dX3_step_1 : decode cX3_step 1 = .ok (.aload_n 0, 1) := by decide +kernel
theorem dX3_step_2 : decode cX3_step 2 = .ok (.getfield 23, 3) := by decide +kernel
theorem dX3_step_5 : decode cX3_step 5 = .ok (.ifCond .ne 7, 3) := by decide +kernel
theorem dX3_step_8 : decode cX3_step 8 = .ok (.iconst 1, 1) := by decide +kernel
theorem dX3_step_9 : decode cX3_step 9 = .ok (.goto 4, 3) := by decide +kernel
theorem dX3_step_12 : decode cX3_step 12 = .ok (.iconst 0, 1) := by decide +kernel
theorem dX3_step_13 : decode cX3_step 13 = .ok (.putfield 23, 3) := by decide +kernel
theorem dX3_step_16 : decode cX3_step 16 = .ok (.return_, 1) := by decide +kernel
theorem dX3_barringPlace_0 : decode cX3_barringPlace 0 = .ok (.aload_n 0, 1) := by decide +kernel
theorem dX3_barringPlace_1 : decode cX3_barringPlace 1 = .ok (.getfield 27, 3) := by decide +kernel
theorem dX3_barringPlace_4 : decode cX3_barringPlace 4 = .ok (.ireturn, 1) := by decide +kernel
theorem dX3_badSign_0 : decode cX3_badSign 0 = .ok (.aload_n 0, 1) := by decide +kernel
theorem dX3_badSign_1 : decode cX3_badSign 1 = .ok (.getfield 31, 3) := by decide +kernel
theorem dX3_badSign_4 : decode cX3_badSign 4 = .ok (.ireturn, 1) := by decide +kernel
theorem dX3_begin_0 : decode cX3_begin 0 = .ok (.aload_n 0, 1) := by decide +kernel
theorem dX3_begin_1 : decode cX3_begin 1 = .ok (.invokevirtual 34, 3) := by decide +kernel
theorem dX3_begin_4 : decode cX3_begin 4 = .ok (.aload_n 1, 1) := by decide +kernel
theorem dX3_begin_5 : decode cX3_begin 5 = .ok (.invokevirtual 38, 3) := by decide +kernel
theorem dX3_begin_8 : decode cX3_begin 8 = .ok (.return_, 1) := by decide +kernel
theorem dX3_putThrough_0 : decode cX3_putThrough 0 = .ok (.aload_n 0, 1) := by decide +kernel
theorem dX3_putThrough_1 : decode cX3_putThrough 1 = .ok (.bipush (-6), 2) := by decide +kernel
theorem dX3_putThrough_3 : decode cX3_putThrough 3 = .ok (.putfield 27, 3) := by decide +kernel
theorem dX3_putThrough_6 : decode cX3_putThrough 6 = .ok (.aload_n 0, 1) := by decide +kernel
theorem dX3_putThrough_7 : decode cX3_putThrough 7 = .ok (.invokevirtual 34, 3) := by decide +kernel
theorem dX3_putThrough_10 : decode cX3_putThrough 10 = .ok (.aload_n 3, 1) := by decide +kernel
theorem dX3_putThrough_11 : decode cX3_putThrough 11 = .ok (.invokevirtual 38, 3) := by decide +kernel
theorem dX3_putThrough_14 : decode cX3_putThrough 14 = .ok (.iconst 0, 1) := by decide +kernel
theorem dX3_putThrough_15 : decode cX3_putThrough 15 = .ok (.istore 5, 2) := by decide +kernel
theorem dX3_putThrough_17 : decode cX3_putThrough 17 = .ok (.iload 5, 2) := by decide +kernel
theorem dX3_putThrough_19 : decode cX3_putThrough 19 = .ok (.aload_n 2, 1) := by decide +kernel
theorem dX3_putThrough_20 : decode cX3_putThrough 20 = .ok (.invokevirtual 42, 3) := by decide +kernel
theorem dX3_putThrough_23 : decode cX3_putThrough 23 = .ok (.if_icmp .ge 78, 3) := by decide +kernel
theorem dX3_putThrough_26 : decode cX3_putThrough 26 = .ok (.aload_n 1, 1) := by decide +kernel
theorem dX3_putThrough_27 : decode cX3_putThrough 27 = .ok (.aload_n 2, 1) := by decide +kernel
theorem dX3_putThrough_28 : decode cX3_putThrough 28 = .ok (.iload 5, 2) := by decide +kernel
theorem dX3_putThrough_30 : decode cX3_putThrough 30 = .ok (.invokevirtual 46, 3) := by decide +kernel
theorem dX3_putThrough_33 : decode cX3_putThrough 33 = .ok (.invokevirtual 50, 3) := by decide +kernel
theorem dX3_putThrough_36 : decode cX3_putThrough 36 = .ok (.aload_n 0, 1) := by decide +kernel
theorem dX3_putThrough_37 : decode cX3_putThrough 37 = .ok (.invokevirtual 34, 3) := by decide +kernel
theorem dX3_putThrough_40 : decode cX3_putThrough 40 = .ok (.aload_n 0, 1) := by decide +kernel
theorem dX3_putThrough_41 : decode cX3_putThrough 41 = .ok (.invokevirtual 56, 3) := by decide +kernel
theorem dX3_putThrough_44 : decode cX3_putThrough 44 = .ok (.iload 5, 2) := by decide +kernel
theorem dX3_putThrough_46 : decode cX3_putThrough 46 = .ok (.iload 4, 2) := by decide +kernel
theorem dX3_putThrough_48 : decode cX3_putThrough 48 = .ok (.if_icmp .ne 7, 3) := by decide +kernel
theorem dX3_putThrough_51 : decode cX3_putThrough 51 = .ok (.iconst 1, 1) := by decide +kernel
theorem dX3_putThrough_52 : decode cX3_putThrough 52 = .ok (.goto 4, 3) := by decide +kernel
theorem dX3_putThrough_55 : decode cX3_putThrough 55 = .ok (.iconst 0, 1) := by decide +kernel
theorem dX3_putThrough_56 : decode cX3_putThrough 56 = .ok (.invokevirtual 59, 3) := by decide +kernel
theorem dX3_putThrough_59 : decode cX3_putThrough 59 = .ok (.istore 6, 2) := by decide +kernel
theorem dX3_putThrough_61 : decode cX3_putThrough 61 = .ok (.iload 6, 2) := by decide +kernel
theorem dX3_putThrough_63 : decode cX3_putThrough 63 = .ok (.bipush (-5), 2) := by decide +kernel
theorem dX3_putThrough_65 : decode cX3_putThrough 65 = .ok (.if_icmp .ne 9, 3) := by decide +kernel
theorem dX3_putThrough_68 : decode cX3_putThrough 68 = .ok (.aload_n 0, 1) := by decide +kernel
theorem dX3_putThrough_69 : decode cX3_putThrough 69 = .ok (.iload 5, 2) := by decide +kernel
theorem dX3_putThrough_71 : decode cX3_putThrough 71 = .ok (.putfield 27, 3) := by decide +kernel
theorem dX3_putThrough_74 : decode cX3_putThrough 74 = .ok (.iload 6, 2) := by decide +kernel
theorem dX3_putThrough_76 : decode cX3_putThrough 76 = .ok (.bipush (-5), 2) := by decide +kernel
theorem dX3_putThrough_78 : decode cX3_putThrough 78 = .ok (.if_icmp .eq 10, 3) := by decide +kernel
theorem dX3_putThrough_81 : decode cX3_putThrough 81 = .ok (.iload 6, 2) := by decide +kernel
theorem dX3_putThrough_83 : decode cX3_putThrough 83 = .ok (.bipush (-7), 2) := by decide +kernel
theorem dX3_putThrough_85 : decode cX3_putThrough 85 = .ok (.if_icmp .ne 6, 3) := by decide +kernel
theorem dX3_putThrough_88 : decode cX3_putThrough 88 = .ok (.iload 6, 2) := by decide +kernel
theorem dX3_putThrough_90 : decode cX3_putThrough 90 = .ok (.ireturn, 1) := by decide +kernel
theorem dX3_putThrough_91 : decode cX3_putThrough 91 = .ok (.aload_n 0, 1) := by decide +kernel
theorem dX3_putThrough_92 : decode cX3_putThrough 92 = .ok (.invokevirtual 65, 3) := by decide +kernel
theorem dX3_putThrough_95 : decode cX3_putThrough 95 = .ok (.iinc 5 1, 3) := by decide +kernel
theorem dX3_putThrough_98 : decode cX3_putThrough 98 = .ok (.goto (-81), 3) := by decide +kernel
theorem dX3_putThrough_101 : decode cX3_putThrough 101 = .ok (.aload_n 0, 1) := by decide +kernel
theorem dX3_putThrough_102 : decode cX3_putThrough 102 = .ok (.invokevirtual 34, 3) := by decide +kernel
theorem dX3_putThrough_105 : decode cX3_putThrough 105 = .ok (.invokevirtual 42, 3) := by decide +kernel
theorem dX3_putThrough_108 : decode cX3_putThrough 108 = .ok (.ireturn, 1) := by decide +kernel
theorem dX3_readBack_0 : decode cX3_readBack 0 = .ok (.aload_n 0, 1) := by decide +kernel
theorem dX3_readBack_1 : decode cX3_readBack 1 = .ok (.bipush (-6), 2) := by decide +kernel
theorem dX3_readBack_3 : decode cX3_readBack 3 = .ok (.putfield 31, 3) := by decide +kernel
theorem dX3_readBack_6 : decode cX3_readBack 6 = .ok (.aload_n 2, 1) := by decide +kernel
theorem dX3_readBack_7 : decode cX3_readBack 7 = .ok (.invokevirtual 42, 3) := by decide +kernel
theorem dX3_readBack_10 : decode cX3_readBack 10 = .ok (.iconst 1, 1) := by decide +kernel
theorem dX3_readBack_11 : decode cX3_readBack 11 = .ok (.isub, 1) := by decide +kernel
theorem dX3_readBack_12 : decode cX3_readBack 12 = .ok (.istore_n 3, 1) := by decide +kernel
theorem dX3_readBack_13 : decode cX3_readBack 13 = .ok (.iload_n 3, 1) := by decide +kernel
theorem dX3_readBack_14 : decode cX3_readBack 14 = .ok (.ifCond .lt 48, 3) := by decide +kernel
theorem dX3_readBack_17 : decode cX3_readBack 17 = .ok (.aload_n 0, 1) := by decide +kernel
theorem dX3_readBack_18 : decode cX3_readBack 18 = .ok (.aload_n 1, 1) := by decide +kernel
theorem dX3_readBack_19 : decode cX3_readBack 19 = .ok (.aload_n 2, 1) := by decide +kernel
theorem dX3_readBack_20 : decode cX3_readBack 20 = .ok (.iload_n 3, 1) := by decide +kernel
theorem dX3_readBack_21 : decode cX3_readBack 21 = .ok (.invokevirtual 46, 3) := by decide +kernel
theorem dX3_readBack_24 : decode cX3_readBack 24 = .ok (.invokevirtual 50, 3) := by decide +kernel
theorem dX3_readBack_27 : decode cX3_readBack 27 = .ok (.aload_n 0, 1) := by decide +kernel
end
section
theorem dX3_readBack_28 : decode cX3_readBack 28 = .ok (.invokevirtual 34, 3) := by decide +kernel
theorem dX3_readBack_31 : decode cX3_readBack 31 = .ok (.aload_n 0, 1) := by decide +kernel
theorem dX3_readBack_32 : decode cX3_readBack 32 = .ok (.invokevirtual 56, 3) := by decide +kernel
theorem dX3_readBack_35 : decode cX3_readBack 35 = .ok (.invokevirtual 68, 3) := by decide +kernel
theorem dX3_readBack_38 : decode cX3_readBack 38 = .ok (.putfield 31, 3) := by decide +kernel
theorem dX3_readBack_41 : decode cX3_readBack 41 = .ok (.aload_n 0, 1) := by decide +kernel
theorem dX3_readBack_42 : decode cX3_readBack 42 = .ok (.getfield 31, 3) := by decide +kernel
theorem dX3_readBack_45 : decode cX3_readBack 45 = .ok (.bipush (-6), 2) := by decide +kernel
theorem dX3_readBack_47 : decode cX3_readBack 47 = .ok (.if_icmp .eq 5, 3) := by decide +kernel
theorem dX3_readBack_50 : decode cX3_readBack 50 = .ok (.iload_n 3, 1) := by decide +kernel
theorem dX3_readBack_51 : decode cX3_readBack 51 = .ok (.ireturn, 1) := by decide +kernel
theorem dX3_readBack_52 : decode cX3_readBack 52 = .ok (.aload_n 0, 1) := by decide +kernel
theorem dX3_readBack_53 : decode cX3_readBack 53 = .ok (.invokevirtual 65, 3) := by decide +kernel
theorem dX3_readBack_56 : decode cX3_readBack 56 = .ok (.iinc 3 (-1), 3) := by decide +kernel
theorem dX3_readBack_59 : decode cX3_readBack 59 = .ok (.goto (-46), 3) := by decide +kernel
theorem dX3_readBack_62 : decode cX3_readBack 62 = .ok (.bipush (-6), 2) := by decide +kernel
theorem dX3_readBack_64 : decode cX3_readBack 64 = .ok (.ireturn, 1) := by decide +kernel
theorem dX4_init_0 : decode cX4_init 0 = .ok (.aload_n 0, 1) := by decide +kernel
theorem dX4_init_1 : decode cX4_init 1 = .ok (.invokespecial 3, 3) := by decide +kernel
theorem dX4_init_4 : decode cX4_init 4 = .ok (.aload_n 0, 1) := by decide +kernel
theorem dX4_init_5 : decode cX4_init 5 = .ok (.iconst 0, 1) := by decide +kernel
theorem dX4_init_6 : decode cX4_init 6 = .ok (.putfield 9, 3) := by decide +kernel
theorem dX4_init_9 : decode cX4_init 9 = .ok (.aload_n 0, 1) := by decide +kernel
theorem dX4_init_10 : decode cX4_init 10 = .ok (.iconst 0, 1) := by decide +kernel
theorem dX4_init_11 : decode cX4_init 11 = .ok (.putfield 15, 3) := by decide +kernel
theorem dX4_init_14 : decode cX4_init 14 = .ok (.aload_n 0, 1) := by decide +kernel
theorem dX4_init_15 : decode cX4_init 15 = .ok (.iload_n 1, 1) := by decide +kernel
theorem dX4_init_16 : decode cX4_init 16 = .ok (.ifCond .le 7, 3) := by decide +kernel
theorem dX4_init_19 : decode cX4_init 19 = .ok (.iload_n 1, 1) := by decide +kernel
theorem dX4_init_20 : decode cX4_init 20 = .ok (.goto 4, 3) := by decide +kernel
theorem dX4_init_23 : decode cX4_init 23 = .ok (.iconst 0, 1) := by decide +kernel
theorem dX4_init_24 : decode cX4_init 24 = .ok (.newarray .int, 2) := by decide +kernel
theorem dX4_init_26 : decode cX4_init 26 = .ok (.putfield 19, 3) := by decide +kernel
theorem dX4_init_29 : decode cX4_init 29 = .ok (.return_, 1) := by decide +kernel
theorem dX4_size_0 : decode cX4_size 0 = .ok (.aload_n 0, 1) := by decide +kernel
theorem dX4_size_1 : decode cX4_size 1 = .ok (.getfield 9, 3) := by decide +kernel
theorem dX4_size_4 : decode cX4_size 4 = .ok (.ireturn, 1) := by decide +kernel
theorem dX4_at_0 : decode cX4_at 0 = .ok (.iload_n 1, 1) := by decide +kernel
theorem dX4_at_1 : decode cX4_at 1 = .ok (.ifCond .lt 29, 3) := by decide +kernel
theorem dX4_at_4 : decode cX4_at 4 = .ok (.iload_n 1, 1) := by decide +kernel
theorem dX4_at_5 : decode cX4_at 5 = .ok (.aload_n 0, 1) := by decide +kernel
theorem dX4_at_6 : decode cX4_at 6 = .ok (.getfield 9, 3) := by decide +kernel
theorem dX4_at_9 : decode cX4_at 9 = .ok (.if_icmp .ge 21, 3) := by decide +kernel
theorem dX4_at_12 : decode cX4_at 12 = .ok (.iload_n 1, 1) := by decide +kernel
theorem dX4_at_13 : decode cX4_at 13 = .ok (.aload_n 0, 1) := by decide +kernel
theorem dX4_at_14 : decode cX4_at 14 = .ok (.getfield 19, 3) := by decide +kernel
theorem dX4_at_17 : decode cX4_at 17 = .ok (.arraylength, 1) := by decide +kernel
theorem dX4_at_18 : decode cX4_at 18 = .ok (.if_icmp .ge 12, 3) := by decide +kernel
theorem dX4_at_21 : decode cX4_at 21 = .ok (.aload_n 0, 1) := by decide +kernel
theorem dX4_at_22 : decode cX4_at 22 = .ok (.getfield 19, 3) := by decide +kernel
theorem dX4_at_25 : decode cX4_at 25 = .ok (.iload_n 1, 1) := by decide +kernel
theorem dX4_at_26 : decode cX4_at 26 = .ok (.iaload, 1) := by decide +kernel
theorem dX4_at_27 : decode cX4_at 27 = .ok (.goto 5, 3) := by decide +kernel
theorem dX4_at_30 : decode cX4_at 30 = .ok (.bipush (-6), 2) := by decide +kernel
theorem dX4_at_32 : decode cX4_at 32 = .ok (.ireturn, 1) := by decide +kernel
theorem dX4_set_0 : decode cX4_set 0 = .ok (.iload_n 1, 1) := by decide +kernel
theorem dX4_set_1 : decode cX4_set 1 = .ok (.ifCond .lt 27, 3) := by decide +kernel
theorem dX4_set_4 : decode cX4_set 4 = .ok (.iload_n 1, 1) := by decide +kernel
theorem dX4_set_5 : decode cX4_set 5 = .ok (.aload_n 0, 1) := by decide +kernel
theorem dX4_set_6 : decode cX4_set 6 = .ok (.getfield 9, 3) := by decide +kernel
theorem dX4_set_9 : decode cX4_set 9 = .ok (.if_icmp .ge 19, 3) := by decide +kernel
theorem dX4_set_12 : decode cX4_set 12 = .ok (.iload_n 1, 1) := by decide +kernel
theorem dX4_set_13 : decode cX4_set 13 = .ok (.aload_n 0, 1) := by decide +kernel
theorem dX4_set_14 : decode cX4_set 14 = .ok (.getfield 19, 3) := by decide +kernel
theorem dX4_set_17 : decode cX4_set 17 = .ok (.arraylength, 1) := by decide +kernel
theorem dX4_set_18 : decode cX4_set 18 = .ok (.if_icmp .ge 10, 3) := by decide +kernel
theorem dX4_set_21 : decode cX4_set 21 = .ok (.aload_n 0, 1) := by decide +kernel
theorem dX4_set_22 : decode cX4_set 22 = .ok (.getfield 19, 3) := by decide +kernel
theorem dX4_set_25 : decode cX4_set 25 = .ok (.iload_n 1, 1) := by decide +kernel
theorem dX4_set_26 : decode cX4_set 26 = .ok (.iload_n 2, 1) := by decide +kernel
theorem dX4_set_27 : decode cX4_set 27 = .ok (.iastore, 1) := by decide +kernel
theorem dX4_set_28 : decode cX4_set 28 = .ok (.return_, 1) := by decide +kernel
theorem dX4_add_0 : decode cX4_add 0 = .ok (.aload_n 0, 1) := by decide +kernel
theorem dX4_add_1 : decode cX4_add 1 = .ok (.getfield 9, 3) := by decide +kernel
theorem dX4_add_4 : decode cX4_add 4 = .ok (.ifCond .lt 38, 3) := by decide +kernel
theorem dX4_add_7 : decode cX4_add 7 = .ok (.aload_n 0, 1) := by decide +kernel
theorem dX4_add_8 : decode cX4_add 8 = .ok (.getfield 9, 3) := by decide +kernel
theorem dX4_add_11 : decode cX4_add 11 = .ok (.aload_n 0, 1) := by decide +kernel
theorem dX4_add_12 : decode cX4_add 12 = .ok (.getfield 19, 3) := by decide +kernel
theorem dX4_add_15 : decode cX4_add 15 = .ok (.arraylength, 1) := by decide +kernel
theorem dX4_add_16 : decode cX4_add 16 = .ok (.if_icmp .ge 26, 3) := by decide +kernel
theorem dX4_add_19 : decode cX4_add 19 = .ok (.aload_n 0, 1) := by decide +kernel
theorem dX4_add_20 : decode cX4_add 20 = .ok (.getfield 19, 3) := by decide +kernel
theorem dX4_add_23 : decode cX4_add 23 = .ok (.aload_n 0, 1) := by decide +kernel
theorem dX4_add_24 : decode cX4_add 24 = .ok (.getfield 9, 3) := by decide +kernel
theorem dX4_add_27 : decode cX4_add 27 = .ok (.iload_n 1, 1) := by decide +kernel
theorem dX4_add_28 : decode cX4_add 28 = .ok (.iastore, 1) := by decide +kernel
theorem dX4_add_29 : decode cX4_add 29 = .ok (.aload_n 0, 1) := by decide +kernel
theorem dX4_add_30 : decode cX4_add 30 = .ok (.dup, 1) := by decide +kernel
theorem dX4_add_31 : decode cX4_add 31 = .ok (.getfield 9, 3) := by decide +kernel
theorem dX4_add_34 : decode cX4_add 34 = .ok (.iconst 1, 1) := by decide +kernel
theorem dX4_add_35 : decode cX4_add 35 = .ok (.iadd, 1) := by decide +kernel
theorem dX4_add_36 : decode cX4_add 36 = .ok (.putfield 9, 3) := by decide +kernel
theorem dX4_add_39 : decode cX4_add 39 = .ok (.goto 8, 3) := by decide +kernel
theorem dX4_add_42 : decode cX4_add 42 = .ok (.aload_n 0, 1) := by decide +kernel
theorem dX4_add_43 : decode cX4_add 43 = .ok (.iconst 1, 1) := by decide +kernel
theorem dX4_add_44 : decode cX4_add 44 = .ok (.putfield 15, 3) := by decide +kernel
theorem dX4_add_47 : decode cX4_add 47 = .ok (.return_, 1) := by decide +kernel
theorem dX4_isOver_0 : decode cX4_isOver 0 = .ok (.aload_n 0, 1) := by decide +kernel
theorem dX4_isOver_1 : decode cX4_isOver 1 = .ok (.getfield 15, 3) := by decide +kernel
theorem dX4_isOver_4 : decode cX4_isOver 4 = .ok (.ireturn, 1) := by decide +kernel
theorem dX4_dropLast_0 : decode cX4_dropLast 0 = .ok (.aload_n 0, 1) := by decide +kernel
theorem dX4_dropLast_1 : decode cX4_dropLast 1 = .ok (.getfield 9, 3) := by decide +kernel
theorem dX4_dropLast_4 : decode cX4_dropLast 4 = .ok (.ifCond .le 13, 3) := by decide +kernel
theorem dX4_dropLast_7 : decode cX4_dropLast 7 = .ok (.aload_n 0, 1) := by decide +kernel
theorem dX4_dropLast_8 : decode cX4_dropLast 8 = .ok (.dup, 1) := by decide +kernel
theorem dX4_dropLast_9 : decode cX4_dropLast 9 = .ok (.getfield 9, 3) := by decide +kernel
theorem dX4_dropLast_12 : decode cX4_dropLast 12 = .ok (.iconst 1, 1) := by decide +kernel
theorem dX4_dropLast_13 : decode cX4_dropLast 13 = .ok (.isub, 1) := by decide +kernel
theorem dX4_dropLast_14 : decode cX4_dropLast 14 = .ok (.putfield 9, 3) := by decide +kernel
theorem dX4_dropLast_17 : decode cX4_dropLast 17 = .ok (.return_, 1) := by decide +kernel
theorem dX4_clear_0 : decode cX4_clear 0 = .ok (.aload_n 0, 1) := by decide +kernel
theorem dX4_clear_1 : decode cX4_clear 1 = .ok (.iconst 0, 1) := by decide +kernel
theorem dX4_clear_2 : decode cX4_clear 2 = .ok (.putfield 9, 3) := by decide +kernel
theorem dX4_clear_5 : decode cX4_clear 5 = .ok (.aload_n 0, 1) := by decide +kernel
theorem dX4_clear_6 : decode cX4_clear 6 = .ok (.iconst 0, 1) := by decide +kernel
theorem dX4_clear_7 : decode cX4_clear 7 = .ok (.putfield 15, 3) := by decide +kernel
theorem dX4_clear_10 : decode cX4_clear 10 = .ok (.return_, 1) := by decide +kernel
theorem dX4_copyFrom_0 : decode cX4_copyFrom 0 = .ok (.aload_n 0, 1) := by decide +kernel
theorem dX4_copyFrom_1 : decode cX4_copyFrom 1 = .ok (.aload_n 1, 1) := by decide +kernel
theorem dX4_copyFrom_2 : decode cX4_copyFrom 2 = .ok (.aload_n 1, 1) := by decide +kernel
theorem dX4_copyFrom_3 : decode cX4_copyFrom 3 = .ok (.invokevirtual 23, 3) := by decide +kernel
theorem dX4_copyFrom_6 : decode cX4_copyFrom 6 = .ok (.invokevirtual 27, 3) := by decide +kernel
theorem dX4_copyFrom_9 : decode cX4_copyFrom 9 = .ok (.return_, 1) := by decide +kernel
theorem dX4_copyFirst_0 : decode cX4_copyFirst 0 = .ok (.aload_n 0, 1) := by decide +kernel
theorem dX4_copyFirst_1 : decode cX4_copyFirst 1 = .ok (.invokevirtual 31, 3) := by decide +kernel
theorem dX4_copyFirst_4 : decode cX4_copyFirst 4 = .ok (.iconst 0, 1) := by decide +kernel
theorem dX4_copyFirst_5 : decode cX4_copyFirst 5 = .ok (.istore_n 3, 1) := by decide +kernel
theorem dX4_copyFirst_6 : decode cX4_copyFirst 6 = .ok (.iload_n 3, 1) := by decide +kernel
theorem dX4_copyFirst_7 : decode cX4_copyFirst 7 = .ok (.iload_n 2, 1) := by decide +kernel
theorem dX4_copyFirst_8 : decode cX4_copyFirst 8 = .ok (.if_icmp .ge 26, 3) := by decide +kernel
theorem dX4_copyFirst_11 : decode cX4_copyFirst 11 = .ok (.iload_n 3, 1) := by decide +kernel
theorem dX4_copyFirst_12 : decode cX4_copyFirst 12 = .ok (.aload_n 1, 1) := by decide +kernel
theorem dX4_copyFirst_13 : decode cX4_copyFirst 13 = .ok (.invokevirtual 23, 3) := by decide +kernel
theorem dX4_copyFirst_16 : decode cX4_copyFirst 16 = .ok (.if_icmp .ge 18, 3) := by decide +kernel
theorem dX4_copyFirst_19 : decode cX4_copyFirst 19 = .ok (.aload_n 0, 1) := by decide +kernel
theorem dX4_copyFirst_20 : decode cX4_copyFirst 20 = .ok (.aload_n 1, 1) := by decide +kernel
theorem dX4_copyFirst_21 : decode cX4_copyFirst 21 = .ok (.iload_n 3, 1) := by decide +kernel
theorem dX4_copyFirst_22 : decode cX4_copyFirst 22 = .ok (.invokevirtual 34, 3) := by decide +kernel
theorem dX4_copyFirst_25 : decode cX4_copyFirst 25 = .ok (.invokevirtual 38, 3) := by decide +kernel
theorem dX4_copyFirst_28 : decode cX4_copyFirst 28 = .ok (.iinc 3 1, 3) := by decide +kernel
theorem dX4_copyFirst_31 : decode cX4_copyFirst 31 = .ok (.goto (-25), 3) := by decide +kernel
theorem dX4_copyFirst_34 : decode cX4_copyFirst 34 = .ok (.return_, 1) := by decide +kernel
theorem dX4_fillZeros_0 : decode cX4_fillZeros 0 = .ok (.aload_n 0, 1) := by decide +kernel
theorem dX4_fillZeros_1 : decode cX4_fillZeros 1 = .ok (.invokevirtual 31, 3) := by decide +kernel
theorem dX4_fillZeros_4 : decode cX4_fillZeros 4 = .ok (.iconst 0, 1) := by decide +kernel
theorem dX4_fillZeros_5 : decode cX4_fillZeros 5 = .ok (.istore_n 2, 1) := by decide +kernel
theorem dX4_fillZeros_6 : decode cX4_fillZeros 6 = .ok (.iload_n 2, 1) := by decide +kernel
theorem dX4_fillZeros_7 : decode cX4_fillZeros 7 = .ok (.iload_n 1, 1) := by decide +kernel
theorem dX4_fillZeros_8 : decode cX4_fillZeros 8 = .ok (.if_icmp .ge 21, 3) := by decide +kernel
theorem dX4_fillZeros_11 : decode cX4_fillZeros 11 = .ok (.aload_n 0, 1) := by decide +kernel
theorem dX4_fillZeros_12 : decode cX4_fillZeros 12 = .ok (.getfield 15, 3) := by decide +kernel
theorem dX4_fillZeros_15 : decode cX4_fillZeros 15 = .ok (.ifCond .ne 14, 3) := by decide +kernel
theorem dX4_fillZeros_18 : decode cX4_fillZeros 18 = .ok (.aload_n 0, 1) := by decide +kernel
theorem dX4_fillZeros_19 : decode cX4_fillZeros 19 = .ok (.iconst 0, 1) := by decide +kernel
theorem dX4_fillZeros_20 : decode cX4_fillZeros 20 = .ok (.invokevirtual 38, 3) := by decide +kernel
theorem dX4_fillZeros_23 : decode cX4_fillZeros 23 = .ok (.iinc 2 1, 3) := by decide +kernel
theorem dX4_fillZeros_26 : decode cX4_fillZeros 26 = .ok (.goto (-20), 3) := by decide +kernel
theorem dX4_fillZeros_29 : decode cX4_fillZeros 29 = .ok (.aload_n 0, 1) := by decide +kernel
theorem dX4_fillZeros_30 : decode cX4_fillZeros 30 = .ok (.getfield 15, 3) := by decide +kernel
theorem dX4_fillZeros_33 : decode cX4_fillZeros 33 = .ok (.ifCond .ne 7, 3) := by decide +kernel
theorem dX4_fillZeros_36 : decode cX4_fillZeros 36 = .ok (.iconst 1, 1) := by decide +kernel
theorem dX4_fillZeros_37 : decode cX4_fillZeros 37 = .ok (.goto 4, 3) := by decide +kernel
theorem dX4_fillZeros_40 : decode cX4_fillZeros 40 = .ok (.iconst 0, 1) := by decide +kernel
theorem dX4_fillZeros_41 : decode cX4_fillZeros 41 = .ok (.ireturn, 1) := by decide +kernel
theorem dX4_sameAs_0 : decode cX4_sameAs 0 = .ok (.aload_n 0, 1) := by decide +kernel
theorem dX4_sameAs_1 : decode cX4_sameAs 1 = .ok (.getfield 9, 3) := by decide +kernel
theorem dX4_sameAs_4 : decode cX4_sameAs 4 = .ok (.aload_n 1, 1) := by decide +kernel
theorem dX4_sameAs_5 : decode cX4_sameAs 5 = .ok (.invokevirtual 23, 3) := by decide +kernel
theorem dX4_sameAs_8 : decode cX4_sameAs 8 = .ok (.if_icmp .eq 5, 3) := by decide +kernel
theorem dX4_sameAs_11 : decode cX4_sameAs 11 = .ok (.iconst 0, 1) := by decide +kernel
theorem dX4_sameAs_12 : decode cX4_sameAs 12 = .ok (.ireturn, 1) := by decide +kernel
theorem dX4_sameAs_13 : decode cX4_sameAs 13 = .ok (.iconst 0, 1) := by decide +kernel
theorem dX4_sameAs_14 : decode cX4_sameAs 14 = .ok (.istore_n 2, 1) := by decide +kernel
theorem dX4_sameAs_15 : decode cX4_sameAs 15 = .ok (.iload_n 2, 1) := by decide +kernel
theorem dX4_sameAs_16 : decode cX4_sameAs 16 = .ok (.aload_n 0, 1) := by decide +kernel
theorem dX4_sameAs_17 : decode cX4_sameAs 17 = .ok (.getfield 9, 3) := by decide +kernel
theorem dX4_sameAs_20 : decode cX4_sameAs 20 = .ok (.if_icmp .ge 24, 3) := by decide +kernel
theorem dX4_sameAs_23 : decode cX4_sameAs 23 = .ok (.aload_n 0, 1) := by decide +kernel
theorem dX4_sameAs_24 : decode cX4_sameAs 24 = .ok (.iload_n 2, 1) := by decide +kernel
theorem dX4_sameAs_25 : decode cX4_sameAs 25 = .ok (.invokevirtual 34, 3) := by decide +kernel
theorem dX4_sameAs_28 : decode cX4_sameAs 28 = .ok (.aload_n 1, 1) := by decide +kernel
theorem dX4_sameAs_29 : decode cX4_sameAs 29 = .ok (.iload_n 2, 1) := by decide +kernel
theorem dX4_sameAs_30 : decode cX4_sameAs 30 = .ok (.invokevirtual 34, 3) := by decide +kernel
theorem dX4_sameAs_33 : decode cX4_sameAs 33 = .ok (.if_icmp .eq 5, 3) := by decide +kernel
theorem dX4_sameAs_36 : decode cX4_sameAs 36 = .ok (.iconst 0, 1) := by decide +kernel
theorem dX4_sameAs_37 : decode cX4_sameAs 37 = .ok (.ireturn, 1) := by decide +kernel
theorem dX4_sameAs_38 : decode cX4_sameAs 38 = .ok (.iinc 2 1, 3) := by decide +kernel
theorem dX4_sameAs_41 : decode cX4_sameAs 41 = .ok (.goto (-26), 3) := by decide +kernel
theorem dX4_sameAs_44 : decode cX4_sameAs 44 = .ok (.iconst 1, 1) := by decide +kernel
theorem dX4_sameAs_45 : decode cX4_sameAs 45 = .ok (.ireturn, 1) := by decide +kernel
theorem dX4_hasAhead_0 : decode cX4_hasAhead 0 = .ok (.iconst 0, 1) := by decide +kernel
theorem dX4_hasAhead_1 : decode cX4_hasAhead 1 = .ok (.istore_n 3, 1) := by decide +kernel
theorem dX4_hasAhead_2 : decode cX4_hasAhead 2 = .ok (.iload_n 3, 1) := by decide +kernel
theorem dX4_hasAhead_3 : decode cX4_hasAhead 3 = .ok (.iload_n 2, 1) := by decide +kernel
theorem dX4_hasAhead_4 : decode cX4_hasAhead 4 = .ok (.if_icmp .ge 28, 3) := by decide +kernel
theorem dX4_hasAhead_7 : decode cX4_hasAhead 7 = .ok (.iload_n 3, 1) := by decide +kernel
theorem dX4_hasAhead_8 : decode cX4_hasAhead 8 = .ok (.aload_n 0, 1) := by decide +kernel
theorem dX4_hasAhead_9 : decode cX4_hasAhead 9 = .ok (.getfield 9, 3) := by decide +kernel
theorem dX4_hasAhead_12 : decode cX4_hasAhead 12 = .ok (.if_icmp .ge 20, 3) := by decide +kernel
theorem dX4_hasAhead_15 : decode cX4_hasAhead 15 = .ok (.aload_n 0, 1) := by decide +kernel
theorem dX4_hasAhead_16 : decode cX4_hasAhead 16 = .ok (.iload_n 3, 1) := by decide +kernel
theorem dX4_hasAhead_17 : decode cX4_hasAhead 17 = .ok (.invokevirtual 34, 3) := by decide +kernel
theorem dX4_hasAhead_20 : decode cX4_hasAhead 20 = .ok (.iload_n 1, 1) := by decide +kernel
theorem dX4_hasAhead_21 : decode cX4_hasAhead 21 = .ok (.if_icmp .ne 5, 3) := by decide +kernel
theorem dX4_hasAhead_24 : decode cX4_hasAhead 24 = .ok (.iconst 1, 1) := by decide +kernel
theorem dX4_hasAhead_25 : decode cX4_hasAhead 25 = .ok (.ireturn, 1) := by decide +kernel
theorem dX4_hasAhead_26 : decode cX4_hasAhead 26 = .ok (.iinc 3 1, 3) := by decide +kernel
theorem dX4_hasAhead_29 : decode cX4_hasAhead 29 = .ok (.goto (-27), 3) := by decide +kernel
theorem dX4_hasAhead_32 : decode cX4_hasAhead 32 = .ok (.iconst 0, 1) := by decide +kernel
theorem dX4_hasAhead_33 : decode cX4_hasAhead 33 = .ok (.ireturn, 1) := by decide +kernel
theorem dX4_swap_0 : decode cX4_swap 0 = .ok (.aload_n 0, 1) := by decide +kernel
theorem dX4_swap_1 : decode cX4_swap 1 = .ok (.iload_n 1, 1) := by decide +kernel
theorem dX4_swap_2 : decode cX4_swap 2 = .ok (.invokevirtual 34, 3) := by decide +kernel
theorem dX4_swap_5 : decode cX4_swap 5 = .ok (.istore_n 3, 1) := by decide +kernel
theorem dX4_swap_6 : decode cX4_swap 6 = .ok (.aload_n 0, 1) := by decide +kernel
theorem dX4_swap_7 : decode cX4_swap 7 = .ok (.iload_n 1, 1) := by decide +kernel
theorem dX4_swap_8 : decode cX4_swap 8 = .ok (.aload_n 0, 1) := by decide +kernel
theorem dX4_swap_9 : decode cX4_swap 9 = .ok (.iload_n 2, 1) := by decide +kernel
theorem dX4_swap_10 : decode cX4_swap 10 = .ok (.invokevirtual 34, 3) := by decide +kernel
theorem dX4_swap_13 : decode cX4_swap 13 = .ok (.invokevirtual 42, 3) := by decide +kernel
theorem dX4_swap_16 : decode cX4_swap 16 = .ok (.aload_n 0, 1) := by decide +kernel
theorem dX4_swap_17 : decode cX4_swap 17 = .ok (.iload_n 2, 1) := by decide +kernel
theorem dX4_swap_18 : decode cX4_swap 18 = .ok (.iload_n 3, 1) := by decide +kernel
theorem dX4_swap_19 : decode cX4_swap 19 = .ok (.invokevirtual 42, 3) := by decide +kernel
theorem dX4_swap_22 : decode cX4_swap 22 = .ok (.return_, 1) := by decide +kernel
theorem dX5_init_0 : decode cX5_init 0 = .ok (.aload_n 0, 1) := by decide +kernel
theorem dX5_init_1 : decode cX5_init 1 = .ok (.invokespecial 3, 3) := by decide +kernel
theorem dX5_init_4 : decode cX5_init 4 = .ok (.aload_n 0, 1) := by decide +kernel
theorem dX5_init_5 : decode cX5_init 5 = .ok (.iconst 5, 1) := by decide +kernel
theorem dX5_init_6 : decode cX5_init 6 = .ok (.anewarray 9, 3) := by decide +kernel
theorem dX5_init_9 : decode cX5_init 9 = .ok (.putfield 11, 3) := by decide +kernel
theorem dX5_init_12 : decode cX5_init 12 = .ok (.aload_n 0, 1) := by decide +kernel
theorem dX5_init_13 : decode cX5_init 13 = .ok (.new 9, 3) := by decide +kernel
theorem dX5_init_16 : decode cX5_init 16 = .ok (.dup, 1) := by decide +kernel
theorem dX5_init_17 : decode cX5_init 17 = .ok (.invokespecial 17, 3) := by decide +kernel
theorem dX5_init_20 : decode cX5_init 20 = .ok (.putfield 18, 3) := by decide +kernel
theorem dX5_init_23 : decode cX5_init 23 = .ok (.aload_n 0, 1) := by decide +kernel
theorem dX5_init_24 : decode cX5_init 24 = .ok (.new 22, 3) := by decide +kernel
theorem dX5_init_27 : decode cX5_init 27 = .ok (.dup, 1) := by decide +kernel
theorem dX5_init_28 : decode cX5_init 28 = .ok (.iconst 5, 1) := by decide +kernel
theorem dX5_init_29 : decode cX5_init 29 = .ok (.invokespecial 24, 3) := by decide +kernel
theorem dX5_init_32 : decode cX5_init 32 = .ok (.putfield 27, 3) := by decide +kernel
theorem dX5_init_35 : decode cX5_init 35 = .ok (.aload_n 0, 1) := by decide +kernel
theorem dX5_init_36 : decode cX5_init 36 = .ok (.new 22, 3) := by decide +kernel
theorem dX5_init_39 : decode cX5_init 39 = .ok (.dup, 1) := by decide +kernel
theorem dX5_init_40 : decode cX5_init 40 = .ok (.bipush 12, 2) := by decide +kernel
theorem dX5_init_42 : decode cX5_init 42 = .ok (.invokespecial 24, 3) := by decide +kernel
theorem dX5_init_45 : decode cX5_init 45 = .ok (.putfield 31, 3) := by decide +kernel
theorem dX5_init_48 : decode cX5_init 48 = .ok (.aload_n 0, 1) := by decide +kernel
theorem dX5_init_49 : decode cX5_init 49 = .ok (.iconst 0, 1) := by decide +kernel
theorem dX5_init_50 : decode cX5_init 50 = .ok (.putfield 34, 3) := by decide +kernel
theorem dX5_init_53 : decode cX5_init 53 = .ok (.iconst 0, 1) := by decide +kernel
theorem dX5_init_54 : decode cX5_init 54 = .ok (.istore_n 1, 1) := by decide +kernel
theorem dX5_init_55 : decode cX5_init 55 = .ok (.iload_n 1, 1) := by decide +kernel
theorem dX5_init_56 : decode cX5_init 56 = .ok (.aload_n 0, 1) := by decide +kernel
theorem dX5_init_57 : decode cX5_init 57 = .ok (.getfield 11, 3) := by decide +kernel
theorem dX5_init_60 : decode cX5_init 60 = .ok (.arraylength, 1) := by decide +kernel
theorem dX5_init_61 : decode cX5_init 61 = .ok (.if_icmp .ge 22, 3) := by decide +kernel
theorem dX5_init_64 : decode cX5_init 64 = .ok (.aload_n 0, 1) := by decide +kernel
theorem dX5_init_65 : decode cX5_init 65 = .ok (.getfield 11, 3) := by decide +kernel
theorem dX5_init_68 : decode cX5_init 68 = .ok (.iload_n 1, 1) := by decide +kernel
theorem dX5_init_69 : decode cX5_init 69 = .ok (.new 9, 3) := by decide +kernel
theorem dX5_init_72 : decode cX5_init 72 = .ok (.dup, 1) := by decide +kernel
theorem dX5_init_73 : decode cX5_init 73 = .ok (.invokespecial 17, 3) := by decide +kernel
theorem dX5_init_76 : decode cX5_init 76 = .ok (.aastore, 1) := by decide +kernel
theorem dX5_init_77 : decode cX5_init 77 = .ok (.iinc 1 1, 3) := by decide +kernel
theorem dX5_init_80 : decode cX5_init 80 = .ok (.goto (-25), 3) := by decide +kernel
theorem dX5_init_83 : decode cX5_init 83 = .ok (.aload_n 0, 1) := by decide +kernel
theorem dX5_init_84 : decode cX5_init 84 = .ok (.getfield 31, 3) := by decide +kernel
theorem dX5_init_87 : decode cX5_init 87 = .ok (.bipush 120, 2) := by decide +kernel
theorem dX5_init_89 : decode cX5_init 89 = .ok (.invokevirtual 38, 3) := by decide +kernel
theorem dX5_init_92 : decode cX5_init 92 = .ok (.return_, 1) := by decide +kernel
theorem dX5_layerAt_0 : decode cX5_layerAt 0 = .ok (.iload_n 1, 1) := by decide +kernel
theorem dX5_layerAt_1 : decode cX5_layerAt 1 = .ok (.ifCond .lt 21, 3) := by decide +kernel
theorem dX5_layerAt_4 : decode cX5_layerAt 4 = .ok (.iload_n 1, 1) := by decide +kernel
theorem dX5_layerAt_5 : decode cX5_layerAt 5 = .ok (.aload_n 0, 1) := by decide +kernel
theorem dX5_layerAt_6 : decode cX5_layerAt 6 = .ok (.getfield 11, 3) := by decide +kernel
theorem dX5_layerAt_9 : decode cX5_layerAt 9 = .ok (.arraylength, 1) := by decide +kernel
theorem dX5_layerAt_10 : decode cX5_layerAt 10 = .ok (.if_icmp .ge 12, 3) := by decide +kernel
theorem dX5_layerAt_13 : decode cX5_layerAt 13 = .ok (.aload_n 0, 1) := by decide +kernel
theorem dX5_layerAt_14 : decode cX5_layerAt 14 = .ok (.getfield 11, 3) := by decide +kernel
theorem dX5_layerAt_17 : decode cX5_layerAt 17 = .ok (.iload_n 1, 1) := by decide +kernel
theorem dX5_layerAt_18 : decode cX5_layerAt 18 = .ok (.aaload, 1) := by decide +kernel
theorem dX5_layerAt_19 : decode cX5_layerAt 19 = .ok (.ifnonnull 8, 3) := by decide +kernel
theorem dX5_layerAt_22 : decode cX5_layerAt 22 = .ok (.aload_n 0, 1) := by decide +kernel
theorem dX5_layerAt_23 : decode cX5_layerAt 23 = .ok (.getfield 18, 3) := by decide +kernel
theorem dX5_layerAt_26 : decode cX5_layerAt 26 = .ok (.areturn, 1) := by decide +kernel
theorem dX5_layerAt_27 : decode cX5_layerAt 27 = .ok (.aload_n 0, 1) := by decide +kernel
theorem dX5_layerAt_28 : decode cX5_layerAt 28 = .ok (.getfield 11, 3) := by decide +kernel
theorem dX5_layerAt_31 : decode cX5_layerAt 31 = .ok (.iload_n 1, 1) := by decide +kernel
theorem dX5_layerAt_32 : decode cX5_layerAt 32 = .ok (.aaload, 1) := by decide +kernel
theorem dX5_layerAt_33 : decode cX5_layerAt 33 = .ok (.areturn, 1) := by decide +kernel
theorem dX5_copyFrom_0 : decode cX5_copyFrom 0 = .ok (.iconst 0, 1) := by decide +kernel
theorem dX5_copyFrom_1 : decode cX5_copyFrom 1 = .ok (.istore_n 2, 1) := by decide +kernel
theorem dX5_copyFrom_2 : decode cX5_copyFrom 2 = .ok (.iload_n 2, 1) := by decide +kernel
theorem dX5_copyFrom_3 : decode cX5_copyFrom 3 = .ok (.iconst 5, 1) := by decide +kernel
theorem dX5_copyFrom_4 : decode cX5_copyFrom 4 = .ok (.if_icmp .ge 22, 3) := by decide +kernel
theorem dX5_copyFrom_7 : decode cX5_copyFrom 7 = .ok (.aload_n 0, 1) := by decide +kernel
theorem dX5_copyFrom_8 : decode cX5_copyFrom 8 = .ok (.iload_n 2, 1) := by decide +kernel
theorem dX5_copyFrom_9 : decode cX5_copyFrom 9 = .ok (.invokevirtual 41, 3) := by decide +kernel
theorem dX5_copyFrom_12 : decode cX5_copyFrom 12 = .ok (.aload_n 1, 1) := by decide +kernel
theorem dX5_copyFrom_13 : decode cX5_copyFrom 13 = .ok (.iload_n 2, 1) := by decide +kernel
theorem dX5_copyFrom_14 : decode cX5_copyFrom 14 = .ok (.invokevirtual 41, 3) := by decide +kernel
theorem dX5_copyFrom_17 : decode cX5_copyFrom 17 = .ok (.invokevirtual 45, 3) := by decide +kernel
theorem dX5_copyFrom_20 : decode cX5_copyFrom 20 = .ok (.iinc 2 1, 3) := by decide +kernel
theorem dX5_copyFrom_23 : decode cX5_copyFrom 23 = .ok (.goto (-21), 3) := by decide +kernel
theorem dX5_copyFrom_26 : decode cX5_copyFrom 26 = .ok (.aload_n 0, 1) := by decide +kernel
theorem dX5_copyFrom_27 : decode cX5_copyFrom 27 = .ok (.getfield 27, 3) := by decide +kernel
theorem dX5_copyFrom_30 : decode cX5_copyFrom 30 = .ok (.aload_n 1, 1) := by decide +kernel
theorem dX5_copyFrom_31 : decode cX5_copyFrom 31 = .ok (.getfield 27, 3) := by decide +kernel
theorem dX5_copyFrom_34 : decode cX5_copyFrom 34 = .ok (.invokevirtual 49, 3) := by decide +kernel
theorem dX5_copyFrom_37 : decode cX5_copyFrom 37 = .ok (.aload_n 0, 1) := by decide +kernel
theorem dX5_copyFrom_38 : decode cX5_copyFrom 38 = .ok (.getfield 31, 3) := by decide +kernel
theorem dX5_copyFrom_41 : decode cX5_copyFrom 41 = .ok (.aload_n 1, 1) := by decide +kernel
theorem dX5_copyFrom_42 : decode cX5_copyFrom 42 = .ok (.getfield 31, 3) := by decide +kernel
theorem dX5_copyFrom_45 : decode cX5_copyFrom 45 = .ok (.invokevirtual 49, 3) := by decide +kernel
theorem dX5_copyFrom_48 : decode cX5_copyFrom 48 = .ok (.return_, 1) := by decide +kernel
theorem dX6_init_0 : decode cX6_init 0 = .ok (.aload_n 0, 1) := by decide +kernel
theorem dX6_init_1 : decode cX6_init 1 = .ok (.invokespecial 1, 3) := by decide +kernel
theorem dX6_init_4 : decode cX6_init 4 = .ok (.aload_n 0, 1) := by decide +kernel
theorem dX6_init_5 : decode cX6_init 5 = .ok (.new 7, 3) := by decide +kernel
theorem dX6_init_8 : decode cX6_init 8 = .ok (.dup, 1) := by decide +kernel
theorem dX6_init_9 : decode cX6_init 9 = .ok (.bipush 60, 2) := by decide +kernel
theorem dX6_init_11 : decode cX6_init 11 = .ok (.invokespecial 11, 3) := by decide +kernel
theorem dX6_init_14 : decode cX6_init 14 = .ok (.putfield 14, 3) := by decide +kernel
theorem dX6_init_17 : decode cX6_init 17 = .ok (.aload_n 0, 1) := by decide +kernel
theorem dX6_init_18 : decode cX6_init 18 = .ok (.new 18, 3) := by decide +kernel
theorem dX6_init_21 : decode cX6_init 21 = .ok (.dup, 1) := by decide +kernel
theorem dX6_init_22 : decode cX6_init 22 = .ok (.invokespecial 20, 3) := by decide +kernel
theorem dX6_init_25 : decode cX6_init 25 = .ok (.putfield 21, 3) := by decide +kernel
theorem dX6_init_28 : decode cX6_init 28 = .ok (.aload_n 0, 1) := by decide +kernel
theorem dX6_init_29 : decode cX6_init 29 = .ok (.new 18, 3) := by decide +kernel
theorem dX6_init_32 : decode cX6_init 32 = .ok (.dup, 1) := by decide +kernel
theorem dX6_init_33 : decode cX6_init 33 = .ok (.invokespecial 20, 3) := by decide +kernel
theorem dX6_init_36 : decode cX6_init 36 = .ok (.putfield 25, 3) := by decide +kernel
theorem dX6_init_39 : decode cX6_init 39 = .ok (.aload_n 0, 1) := by decide +kernel
theorem dX6_init_40 : decode cX6_init 40 = .ok (.new 18, 3) := by decide +kernel
theorem dX6_init_43 : decode cX6_init 43 = .ok (.dup, 1) := by decide +kernel
theorem dX6_init_44 : decode cX6_init 44 = .ok (.invokespecial 20, 3) := by decide +kernel
theorem dX6_init_47 : decode cX6_init 47 = .ok (.putfield 28, 3) := by decide +kernel
theorem dX6_init_50 : decode cX6_init 50 = .ok (.aload_n 0, 1) := by decide +kernel
theorem dX6_init_51 : decode cX6_init 51 = .ok (.new 31, 3) := by decide +kernel
theorem dX6_init_54 : decode cX6_init 54 = .ok (.dup, 1) := by decide +kernel
theorem dX6_init_55 : decode cX6_init 55 = .ok (.invokespecial 33, 3) := by decide +kernel
theorem dX6_init_58 : decode cX6_init 58 = .ok (.putfield 34, 3) := by decide +kernel
theorem dX6_init_61 : decode cX6_init 61 = .ok (.aload_n 0, 1) := by decide +kernel
theorem dX6_init_62 : decode cX6_init 62 = .ok (.new 7, 3) := by decide +kernel
theorem dX6_init_65 : decode cX6_init 65 = .ok (.dup, 1) := by decide +kernel
theorem dX6_init_66 : decode cX6_init 66 = .ok (.bipush 12, 2) := by decide +kernel
theorem dX6_init_68 : decode cX6_init 68 = .ok (.invokespecial 11, 3) := by decide +kernel
theorem dX6_init_71 : decode cX6_init 71 = .ok (.putfield 38, 3) := by decide +kernel
theorem dX6_init_74 : decode cX6_init 74 = .ok (.aload_n 0, 1) := by decide +kernel
theorem dX6_init_75 : decode cX6_init 75 = .ok (.new 7, 3) := by decide +kernel
theorem dX6_init_78 : decode cX6_init 78 = .ok (.dup, 1) := by decide +kernel
theorem dX6_init_79 : decode cX6_init 79 = .ok (.bipush 6, 2) := by decide +kernel
theorem dX6_init_81 : decode cX6_init 81 = .ok (.invokespecial 11, 3) := by decide +kernel
theorem dX6_init_84 : decode cX6_init 84 = .ok (.putfield 41, 3) := by decide +kernel
theorem dX6_init_87 : decode cX6_init 87 = .ok (.aload_n 0, 1) := by decide +kernel
theorem dX6_init_88 : decode cX6_init 88 = .ok (.new 7, 3) := by decide +kernel
theorem dX6_init_91 : decode cX6_init 91 = .ok (.dup, 1) := by decide +kernel
theorem dX6_init_92 : decode cX6_init 92 = .ok (.iconst 5, 1) := by decide +kernel
theorem dX6_init_93 : decode cX6_init 93 = .ok (.invokespecial 11, 3) := by decide +kernel
theorem dX6_init_96 : decode cX6_init 96 = .ok (.putfield 44, 3) := by decide +kernel
theorem dX6_init_99 : decode cX6_init 99 = .ok (.aload_n 0, 1) := by decide +kernel
theorem dX6_init_100 : decode cX6_init 100 = .ok (.new 7, 3) := by decide +kernel
theorem dX6_init_103 : decode cX6_init 103 = .ok (.dup, 1) := by decide +kernel
theorem dX6_init_104 : decode cX6_init 104 = .ok (.iconst 5, 1) := by decide +kernel
theorem dX6_init_105 : decode cX6_init 105 = .ok (.invokespecial 11, 3) := by decide +kernel
theorem dX6_init_108 : decode cX6_init 108 = .ok (.putfield 47, 3) := by decide +kernel
theorem dX6_init_111 : decode cX6_init 111 = .ok (.return_, 1) := by decide +kernel
theorem dX6_say_0 : decode cX6_say 0 = .ok (.iload_n 1, 1) := by decide +kernel
theorem dX6_say_1 : decode cX6_say 1 = .ok (.invokestatic 50, 3) := by decide +kernel
theorem dX6_say_4 : decode cX6_say 4 = .ok (.ifCond .ne 6, 3) := by decide +kernel
theorem dX6_say_7 : decode cX6_say 7 = .ok (.bipush (-2), 2) := by decide +kernel
theorem dX6_say_9 : decode cX6_say 9 = .ok (.ireturn, 1) := by decide +kernel
theorem dX6_say_10 : decode cX6_say 10 = .ok (.aload_n 0, 1) := by decide +kernel
theorem dX6_say_11 : decode cX6_say 11 = .ok (.getfield 14, 3) := by decide +kernel
theorem dX6_say_14 : decode cX6_say 14 = .ok (.invokevirtual 54, 3) := by decide +kernel
theorem dX6_say_17 : decode cX6_say 17 = .ok (.bipush 60, 2) := by decide +kernel
theorem dX6_say_19 : decode cX6_say 19 = .ok (.if_icmp .lt 6, 3) := by decide +kernel
theorem dX6_say_22 : decode cX6_say 22 = .ok (.bipush (-4), 2) := by decide +kernel
theorem dX6_say_24 : decode cX6_say 24 = .ok (.ireturn, 1) := by decide +kernel
theorem dX6_say_25 : decode cX6_say 25 = .ok (.aload_n 0, 1) := by decide +kernel
theorem dX6_say_26 : decode cX6_say 26 = .ok (.getfield 14, 3) := by decide +kernel
theorem dX6_say_29 : decode cX6_say 29 = .ok (.iload_n 1, 1) := by decide +kernel
theorem dX6_say_30 : decode cX6_say 30 = .ok (.invokevirtual 58, 3) := by decide +kernel
theorem dX6_say_33 : decode cX6_say 33 = .ok (.aload_n 0, 1) := by decide +kernel
theorem dX6_say_34 : decode cX6_say 34 = .ok (.getfield 14, 3) := by decide +kernel
theorem dX6_say_37 : decode cX6_say 37 = .ok (.invokevirtual 54, 3) := by decide +kernel
theorem dX6_say_40 : decode cX6_say 40 = .ok (.ireturn, 1) := by decide +kernel
theorem dX6_wipe_0 : decode cX6_wipe 0 = .ok (.aload_n 0, 1) := by decide +kernel
theorem dX6_wipe_1 : decode cX6_wipe 1 = .ok (.getfield 14, 3) := by decide +kernel
theorem dX6_wipe_4 : decode cX6_wipe 4 = .ok (.invokevirtual 54, 3) := by decide +kernel
theorem dX6_wipe_7 : decode cX6_wipe 7 = .ok (.istore_n 1, 1) := by decide +kernel
theorem dX6_wipe_8 : decode cX6_wipe 8 = .ok (.aload_n 0, 1) := by decide +kernel
theorem dX6_wipe_9 : decode cX6_wipe 9 = .ok (.getfield 14, 3) := by decide +kernel
theorem dX6_wipe_12 : decode cX6_wipe 12 = .ok (.invokevirtual 61, 3) := by decide +kernel
theorem dX6_wipe_15 : decode cX6_wipe 15 = .ok (.iload_n 1, 1) := by decide +kernel
theorem dX6_wipe_16 : decode cX6_wipe 16 = .ok (.ireturn, 1) := by decide +kernel
theorem dX6_fault_0 : decode cX6_fault 0 = .ok (.aload_n 0, 1) := by decide +kernel
theorem dX6_fault_1 : decode cX6_fault 1 = .ok (.getfield 14, 3) := by decide +kernel
theorem dX6_fault_4 : decode cX6_fault 4 = .ok (.invokestatic 64, 3) := by decide +kernel
theorem dX6_fault_7 : decode cX6_fault 7 = .ok (.ireturn, 1) := by decide +kernel
theorem dX6_layer_0 : decode cX6_layer 0 = .ok (.iload_n 1, 1) := by decide +kernel
theorem dX6_layer_1 : decode cX6_layer 1 = .ok (.invokestatic 70, 3) := by decide +kernel
theorem dX6_layer_4 : decode cX6_layer 4 = .ok (.ifCond .ne 5, 3) := by decide +kernel
theorem dX6_layer_7 : decode cX6_layer 7 = .ok (.iconst (-1), 1) := by decide +kernel
theorem dX6_layer_8 : decode cX6_layer 8 = .ok (.ireturn, 1) := by decide +kernel
theorem dX6_layer_9 : decode cX6_layer 9 = .ok (.aload_n 0, 1) := by decide +kernel
theorem dX6_layer_10 : decode cX6_layer 10 = .ok (.getfield 14, 3) := by decide +kernel
theorem dX6_layer_13 : decode cX6_layer 13 = .ok (.invokestatic 64, 3) := by decide +kernel
theorem dX6_layer_16 : decode cX6_layer 16 = .ok (.bipush (-6), 2) := by decide +kernel
theorem dX6_layer_18 : decode cX6_layer 18 = .ok (.if_icmp .eq 6, 3) := by decide +kernel
theorem dX6_layer_21 : decode cX6_layer 21 = .ok (.bipush (-5), 2) := by decide +kernel
theorem dX6_layer_23 : decode cX6_layer 23 = .ok (.ireturn, 1) := by decide +kernel
theorem dX6_layer_24 : decode cX6_layer 24 = .ok (.aload_n 0, 1) := by decide +kernel
theorem dX6_layer_25 : decode cX6_layer 25 = .ok (.getfield 21, 3) := by decide +kernel
theorem dX6_layer_28 : decode cX6_layer 28 = .ok (.iload_n 1, 1) := by decide +kernel
theorem dX6_layer_29 : decode cX6_layer 29 = .ok (.invokevirtual 73, 3) := by decide +kernel
theorem dX6_layer_32 : decode cX6_layer 32 = .ok (.astore_n 2, 1) := by decide +kernel
theorem dX6_layer_33 : decode cX6_layer 33 = .ok (.aload_n 2, 1) := by decide +kernel
theorem dX6_layer_34 : decode cX6_layer 34 = .ok (.aload_n 0, 1) := by decide +kernel
theorem dX6_layer_35 : decode cX6_layer 35 = .ok (.getfield 14, 3) := by decide +kernel
theorem dX6_layer_38 : decode cX6_layer 38 = .ok (.invokevirtual 77, 3) := by decide +kernel
theorem dX6_layer_41 : decode cX6_layer 41 = .ok (.aload_n 0, 1) := by decide +kernel
theorem dX6_layer_42 : decode cX6_layer 42 = .ok (.getfield 14, 3) := by decide +kernel
theorem dX6_layer_45 : decode cX6_layer 45 = .ok (.invokevirtual 61, 3) := by decide +kernel
theorem dX6_layer_48 : decode cX6_layer 48 = .ok (.aload_n 2, 1) := by decide +kernel
theorem dX6_layer_49 : decode cX6_layer 49 = .ok (.invokevirtual 83, 3) := by decide +kernel
theorem dX6_layer_52 : decode cX6_layer 52 = .ok (.ireturn, 1) := by decide +kernel
theorem dX6_about_0 : decode cX6_about 0 = .ok (.iload_n 1, 1) := by decide +kernel
theorem dX6_about_1 : decode cX6_about 1 = .ok (.invokestatic 70, 3) := by decide +kernel
theorem dX6_about_4 : decode cX6_about 4 = .ok (.ifCond .ne 5, 3) := by decide +kernel
theorem dX6_about_7 : decode cX6_about 7 = .ok (.iconst (-1), 1) := by decide +kernel
theorem dX6_about_8 : decode cX6_about 8 = .ok (.ireturn, 1) := by decide +kernel
theorem dX6_about_9 : decode cX6_about 9 = .ok (.iload_n 2, 1) := by decide +kernel
theorem dX6_about_10 : decode cX6_about 10 = .ok (.ifCond .lt 9, 3) := by decide +kernel
theorem dX6_about_13 : decode cX6_about 13 = .ok (.iload_n 2, 1) := by decide +kernel
theorem dX6_about_14 : decode cX6_about 14 = .ok (.bipush 8, 2) := by decide +kernel
theorem dX6_about_16 : decode cX6_about 16 = .ok (.if_icmp .le 6, 3) := by decide +kernel
theorem dX6_about_19 : decode cX6_about 19 = .ok (.bipush (-2), 2) := by decide +kernel
theorem dX6_about_21 : decode cX6_about 21 = .ok (.ireturn, 1) := by decide +kernel
theorem dX6_about_22 : decode cX6_about 22 = .ok (.aload_n 0, 1) := by decide +kernel
theorem dX6_about_23 : decode cX6_about 23 = .ok (.getfield 21, 3) := by decide +kernel
theorem dX6_about_26 : decode cX6_about 26 = .ok (.iload_n 1, 1) := by decide +kernel
theorem dX6_about_27 : decode cX6_about 27 = .ok (.invokevirtual 73, 3) := by decide +kernel
theorem dX6_about_30 : decode cX6_about 30 = .ok (.iload_n 2, 1) := by decide +kernel
theorem dX6_about_31 : decode cX6_about 31 = .ok (.invokevirtual 86, 3) := by decide +kernel
theorem dX6_about_34 : decode cX6_about 34 = .ok (.ireturn, 1) := by decide +kernel
theorem dX6_chain_0 : decode cX6_chain 0 = .ok (.iload_n 1, 1) := by decide +kernel
theorem dX6_chain_1 : decode cX6_chain 1 = .ok (.invokestatic 70, 3) := by decide +kernel
theorem dX6_chain_4 : decode cX6_chain 4 = .ok (.ifCond .ne 5, 3) := by decide +kernel
theorem dX6_chain_7 : decode cX6_chain 7 = .ok (.iconst (-1), 1) := by decide +kernel
theorem dX6_chain_8 : decode cX6_chain 8 = .ok (.ireturn, 1) := by decide +kernel
theorem dX6_chain_9 : decode cX6_chain 9 = .ok (.aload_n 0, 1) := by decide +kernel
theorem dX6_chain_10 : decode cX6_chain 10 = .ok (.getfield 21, 3) := by decide +kernel
theorem dX6_chain_13 : decode cX6_chain 13 = .ok (.getfield 90, 3) := by decide +kernel
theorem dX6_chain_16 : decode cX6_chain 16 = .ok (.invokevirtual 54, 3) := by decide +kernel
theorem dX6_chain_19 : decode cX6_chain 19 = .ok (.iconst 5, 1) := by decide +kernel
theorem dX6_chain_20 : decode cX6_chain 20 = .ok (.if_icmp .lt 6, 3) := by decide +kernel
theorem dX6_chain_23 : decode cX6_chain 23 = .ok (.bipush (-4), 2) := by decide +kernel
theorem dX6_chain_25 : decode cX6_chain 25 = .ok (.ireturn, 1) := by decide +kernel
theorem dX6_chain_26 : decode cX6_chain 26 = .ok (.aload_n 0, 1) := by decide +kernel
theorem dX6_chain_27 : decode cX6_chain 27 = .ok (.getfield 21, 3) := by decide +kernel
theorem dX6_chain_30 : decode cX6_chain 30 = .ok (.getfield 90, 3) := by decide +kernel
theorem dX6_chain_33 : decode cX6_chain 33 = .ok (.iload_n 1, 1) := by decide +kernel
theorem dX6_chain_34 : decode cX6_chain 34 = .ok (.invokevirtual 58, 3) := by decide +kernel
theorem dX6_chain_37 : decode cX6_chain 37 = .ok (.aload_n 0, 1) := by decide +kernel
theorem dX6_chain_38 : decode cX6_chain 38 = .ok (.getfield 21, 3) := by decide +kernel
theorem dX6_chain_41 : decode cX6_chain 41 = .ok (.getfield 90, 3) := by decide +kernel
theorem dX6_chain_44 : decode cX6_chain 44 = .ok (.invokevirtual 54, 3) := by decide +kernel
theorem dX6_chain_47 : decode cX6_chain 47 = .ok (.ireturn, 1) := by decide +kernel
theorem dX6_unchain_0 : decode cX6_unchain 0 = .ok (.aload_n 0, 1) := by decide +kernel
theorem dX6_unchain_1 : decode cX6_unchain 1 = .ok (.getfield 21, 3) := by decide +kernel
theorem dX6_unchain_4 : decode cX6_unchain 4 = .ok (.getfield 90, 3) := by decide +kernel
theorem dX6_unchain_7 : decode cX6_unchain 7 = .ok (.invokevirtual 54, 3) := by decide +kernel
theorem dX6_unchain_10 : decode cX6_unchain 10 = .ok (.ifCond .ne 6, 3) := by decide +kernel
theorem dX6_unchain_13 : decode cX6_unchain 13 = .ok (.bipush (-5), 2) := by decide +kernel
theorem dX6_unchain_15 : decode cX6_unchain 15 = .ok (.ireturn, 1) := by decide +kernel
theorem dX6_unchain_16 : decode cX6_unchain 16 = .ok (.aload_n 0, 1) := by decide +kernel
theorem dX6_unchain_17 : decode cX6_unchain 17 = .ok (.getfield 21, 3) := by decide +kernel
theorem dX6_unchain_20 : decode cX6_unchain 20 = .ok (.getfield 90, 3) := by decide +kernel
theorem dX6_unchain_23 : decode cX6_unchain 23 = .ok (.invokevirtual 93, 3) := by decide +kernel
theorem dX6_unchain_26 : decode cX6_unchain 26 = .ok (.aload_n 0, 1) := by decide +kernel
theorem dX6_unchain_27 : decode cX6_unchain 27 = .ok (.getfield 21, 3) := by decide +kernel
theorem dX6_unchain_30 : decode cX6_unchain 30 = .ok (.getfield 90, 3) := by decide +kernel
theorem dX6_unchain_33 : decode cX6_unchain 33 = .ok (.invokevirtual 54, 3) := by decide +kernel
theorem dX6_unchain_36 : decode cX6_unchain 36 = .ok (.ireturn, 1) := by decide +kernel
theorem dX6_text_0 : decode cX6_text 0 = .ok (.aload_n 0, 1) := by decide +kernel
theorem dX6_text_1 : decode cX6_text 1 = .ok (.getfield 14, 3) := by decide +kernel
theorem dX6_text_4 : decode cX6_text 4 = .ok (.invokevirtual 54, 3) := by decide +kernel
theorem dX6_text_7 : decode cX6_text 7 = .ok (.ifCond .eq 15, 3) := by decide +kernel
theorem dX6_text_10 : decode cX6_text 10 = .ok (.aload_n 0, 1) := by decide +kernel
theorem dX6_text_11 : decode cX6_text 11 = .ok (.getfield 14, 3) := by decide +kernel
theorem dX6_text_14 : decode cX6_text 14 = .ok (.invokevirtual 54, 3) := by decide +kernel
theorem dX6_text_17 : decode cX6_text 17 = .ok (.bipush 12, 2) := by decide +kernel
theorem dX6_text_19 : decode cX6_text 19 = .ok (.if_icmp .le 6, 3) := by decide +kernel
theorem dX6_text_22 : decode cX6_text 22 = .ok (.bipush (-5), 2) := by decide +kernel
theorem dX6_text_24 : decode cX6_text 24 = .ok (.ireturn, 1) := by decide +kernel
theorem dX6_text_25 : decode cX6_text 25 = .ok (.aload_n 0, 1) := by decide +kernel
theorem dX6_text_26 : decode cX6_text 26 = .ok (.getfield 21, 3) := by decide +kernel
theorem dX6_text_29 : decode cX6_text 29 = .ok (.getfield 96, 3) := by decide +kernel
theorem dX6_text_32 : decode cX6_text 32 = .ok (.aload_n 0, 1) := by decide +kernel
theorem dX6_text_33 : decode cX6_text 33 = .ok (.getfield 14, 3) := by decide +kernel
theorem dX6_text_36 : decode cX6_text 36 = .ok (.invokevirtual 99, 3) := by decide +kernel
theorem dX6_text_39 : decode cX6_text 39 = .ok (.aload_n 0, 1) := by decide +kernel
theorem dX6_text_40 : decode cX6_text 40 = .ok (.getfield 14, 3) := by decide +kernel
theorem dX6_text_43 : decode cX6_text 43 = .ok (.invokevirtual 61, 3) := by decide +kernel
theorem dX6_text_46 : decode cX6_text 46 = .ok (.aload_n 0, 1) := by decide +kernel
theorem dX6_text_47 : decode cX6_text 47 = .ok (.getfield 21, 3) := by decide +kernel
theorem dX6_text_50 : decode cX6_text 50 = .ok (.getfield 96, 3) := by decide +kernel
theorem dX6_text_53 : decode cX6_text 53 = .ok (.invokevirtual 54, 3) := by decide +kernel
theorem dX6_text_56 : decode cX6_text 56 = .ok (.ireturn, 1) := by decide +kernel
theorem dX6_behind_0 : decode cX6_behind 0 = .ok (.iload_n 1, 1) := by decide +kernel
theorem dX6_behind_1 : decode cX6_behind 1 = .ok (.ifCond .lt 17, 3) := by decide +kernel
theorem dX6_behind_4 : decode cX6_behind 4 = .ok (.iload_n 1, 1) := by decide +kernel
theorem dX6_behind_5 : decode cX6_behind 5 = .ok (.aload_n 0, 1) := by decide +kernel
theorem dX6_behind_6 : decode cX6_behind 6 = .ok (.getfield 21, 3) := by decide +kernel
theorem dX6_behind_9 : decode cX6_behind 9 = .ok (.getfield 90, 3) := by decide +kernel
theorem dX6_behind_12 : decode cX6_behind 12 = .ok (.invokevirtual 54, 3) := by decide +kernel
theorem dX6_behind_15 : decode cX6_behind 15 = .ok (.if_icmp .le 6, 3) := by decide +kernel
theorem dX6_behind_18 : decode cX6_behind 18 = .ok (.bipush (-2), 2) := by decide +kernel
theorem dX6_behind_20 : decode cX6_behind 20 = .ok (.ireturn, 1) := by decide +kernel
theorem dX6_behind_21 : decode cX6_behind 21 = .ok (.aload_n 0, 1) := by decide +kernel
theorem dX6_behind_22 : decode cX6_behind 22 = .ok (.getfield 41, 3) := by decide +kernel
theorem dX6_behind_25 : decode cX6_behind 25 = .ok (.aload_n 0, 1) := by decide +kernel
theorem dX6_behind_26 : decode cX6_behind 26 = .ok (.getfield 21, 3) := by decide +kernel
theorem dX6_behind_29 : decode cX6_behind 29 = .ok (.getfield 90, 3) := by decide +kernel
theorem dX6_behind_32 : decode cX6_behind 32 = .ok (.iload_n 1, 1) := by decide +kernel
theorem dX6_behind_33 : decode cX6_behind 33 = .ok (.invokevirtual 102, 3) := by decide +kernel
theorem dX6_behind_36 : decode cX6_behind 36 = .ok (.aload_n 0, 1) := by decide +kernel
theorem dX6_behind_37 : decode cX6_behind 37 = .ok (.getfield 34, 3) := by decide +kernel
theorem dX6_behind_40 : decode cX6_behind 40 = .ok (.aload_n 0, 1) := by decide +kernel
theorem dX6_behind_41 : decode cX6_behind 41 = .ok (.getfield 21, 3) := by decide +kernel
theorem dX6_behind_44 : decode cX6_behind 44 = .ok (.aload_n 0, 1) := by decide +kernel
theorem dX6_behind_45 : decode cX6_behind 45 = .ok (.getfield 41, 3) := by decide +kernel
theorem dX6_behind_48 : decode cX6_behind 48 = .ok (.aload_n 0, 1) := by decide +kernel
theorem dX6_behind_49 : decode cX6_behind 49 = .ok (.getfield 21, 3) := by decide +kernel
theorem dX6_behind_52 : decode cX6_behind 52 = .ok (.getfield 96, 3) := by decide +kernel
theorem dX6_behind_55 : decode cX6_behind 55 = .ok (.bipush (-6), 2) := by decide +kernel
theorem dX6_behind_57 : decode cX6_behind 57 = .ok (.invokevirtual 106, 3) := by decide +kernel
theorem dX6_behind_60 : decode cX6_behind 60 = .ok (.istore_n 3, 1) := by decide +kernel
theorem dX6_behind_61 : decode cX6_behind 61 = .ok (.iload_n 3, 1) := by decide +kernel
theorem dX6_behind_62 : decode cX6_behind 62 = .ok (.bipush (-7), 2) := by decide +kernel
theorem dX6_behind_64 : decode cX6_behind 64 = .ok (.if_icmp .eq 9, 3) := by decide +kernel
theorem dX6_behind_67 : decode cX6_behind 67 = .ok (.iload_n 3, 1) := by decide +kernel
theorem dX6_behind_68 : decode cX6_behind 68 = .ok (.bipush (-5), 2) := by decide +kernel
theorem dX6_behind_70 : decode cX6_behind 70 = .ok (.if_icmp .ne 5, 3) := by decide +kernel
theorem dX6_behind_73 : decode cX6_behind 73 = .ok (.iload_n 3, 1) := by decide +kernel
theorem dX6_behind_74 : decode cX6_behind 74 = .ok (.ireturn, 1) := by decide +kernel
theorem dX6_behind_75 : decode cX6_behind 75 = .ok (.iload_n 2, 1) := by decide +kernel
theorem dX6_behind_76 : decode cX6_behind 76 = .ok (.iconst (-1), 1) := by decide +kernel
theorem dX6_behind_77 : decode cX6_behind 77 = .ok (.if_icmp .ne 7, 3) := by decide +kernel
theorem dX6_behind_80 : decode cX6_behind 80 = .ok (.iload_n 3, 1) := by decide +kernel
theorem dX6_behind_81 : decode cX6_behind 81 = .ok (.goto 14, 3) := by decide +kernel
theorem dX6_behind_84 : decode cX6_behind 84 = .ok (.aload_n 0, 1) := by decide +kernel
theorem dX6_behind_85 : decode cX6_behind 85 = .ok (.getfield 34, 3) := by decide +kernel
theorem dX6_behind_88 : decode cX6_behind 88 = .ok (.invokevirtual 110, 3) := by decide +kernel
theorem dX6_behind_91 : decode cX6_behind 91 = .ok (.iload_n 2, 1) := by decide +kernel
theorem dX6_behind_92 : decode cX6_behind 92 = .ok (.invokevirtual 114, 3) := by decide +kernel
theorem dX6_behind_95 : decode cX6_behind 95 = .ok (.ireturn, 1) := by decide +kernel
theorem dX6_barred_0 : decode cX6_barred 0 = .ok (.aload_n 0, 1) := by decide +kernel
theorem dX6_barred_1 : decode cX6_barred 1 = .ok (.getfield 34, 3) := by decide +kernel
theorem dX6_barred_4 : decode cX6_barred 4 = .ok (.aload_n 0, 1) := by decide +kernel
theorem dX6_barred_5 : decode cX6_barred 5 = .ok (.getfield 21, 3) := by decide +kernel
theorem dX6_barred_8 : decode cX6_barred 8 = .ok (.aload_n 0, 1) := by decide +kernel
theorem dX6_barred_9 : decode cX6_barred 9 = .ok (.getfield 21, 3) := by decide +kernel
theorem dX6_barred_12 : decode cX6_barred 12 = .ok (.getfield 90, 3) := by decide +kernel
theorem dX6_barred_15 : decode cX6_barred 15 = .ok (.aload_n 0, 1) := by decide +kernel
theorem dX6_barred_16 : decode cX6_barred 16 = .ok (.getfield 21, 3) := by decide +kernel
theorem dX6_barred_19 : decode cX6_barred 19 = .ok (.getfield 96, 3) := by decide +kernel
theorem dX6_barred_22 : decode cX6_barred 22 = .ok (.bipush (-6), 2) := by decide +kernel
theorem dX6_barred_24 : decode cX6_barred 24 = .ok (.invokevirtual 106, 3) := by decide +kernel
theorem dX6_barred_27 : decode cX6_barred 27 = .ok (.istore_n 1, 1) := by decide +kernel
theorem dX6_barred_28 : decode cX6_barred 28 = .ok (.iload_n 1, 1) := by decide +kernel
theorem dX6_barred_29 : decode cX6_barred 29 = .ok (.bipush (-7), 2) := by decide +kernel
theorem dX6_barred_31 : decode cX6_barred 31 = .ok (.if_icmp .ne 8, 3) := by decide +kernel
theorem dX6_barred_34 : decode cX6_barred 34 = .ok (.bipush (-7), 2) := by decide +kernel
theorem dX6_barred_36 : decode cX6_barred 36 = .ok (.goto 10, 3) := by decide +kernel
theorem dX6_barred_39 : decode cX6_barred 39 = .ok (.aload_n 0, 1) := by decide +kernel
theorem dX6_barred_40 : decode cX6_barred 40 = .ok (.getfield 34, 3) := by decide +kernel
theorem dX6_barred_43 : decode cX6_barred 43 = .ok (.invokevirtual 117, 3) := by decide +kernel
theorem dX6_barred_46 : decode cX6_barred 46 = .ok (.ireturn, 1) := by decide +kernel
theorem dX6_grows_0 : decode cX6_grows 0 = .ok (.iload_n 1, 1) := by decide +kernel
theorem dX6_grows_1 : decode cX6_grows 1 = .ok (.invokestatic 50, 3) := by decide +kernel
theorem dX6_grows_4 : decode cX6_grows 4 = .ok (.ifCond .ne 6, 3) := by decide +kernel
theorem dX6_grows_7 : decode cX6_grows 7 = .ok (.bipush (-2), 2) := by decide +kernel
theorem dX6_grows_9 : decode cX6_grows 9 = .ok (.ireturn, 1) := by decide +kernel
theorem dX6_grows_10 : decode cX6_grows 10 = .ok (.aload_n 0, 1) := by decide +kernel
theorem dX6_grows_11 : decode cX6_grows 11 = .ok (.bipush 120, 2) := by decide +kernel
theorem dX6_grows_13 : decode cX6_grows 13 = .ok (.invokevirtual 120, 3) := by decide +kernel
theorem dX6_grows_16 : decode cX6_grows 16 = .ok (.istore_n 2, 1) := by decide +kernel
theorem dX6_grows_17 : decode cX6_grows 17 = .ok (.aload_n 0, 1) := by decide +kernel
theorem dX6_grows_18 : decode cX6_grows 18 = .ok (.iload_n 1, 1) := by decide +kernel
theorem dX6_grows_19 : decode cX6_grows 19 = .ok (.invokevirtual 120, 3) := by decide +kernel
theorem dX6_grows_22 : decode cX6_grows 22 = .ok (.istore_n 3, 1) := by decide +kernel
theorem dX6_grows_23 : decode cX6_grows 23 = .ok (.iload_n 2, 1) := by decide +kernel
theorem dX6_grows_24 : decode cX6_grows 24 = .ok (.ifCond .lt 7, 3) := by decide +kernel
theorem dX6_grows_27 : decode cX6_grows 27 = .ok (.iload_n 3, 1) := by decide +kernel
theorem dX6_grows_28 : decode cX6_grows 28 = .ok (.ifCond .ge 8, 3) := by decide +kernel
theorem dX6_grows_31 : decode cX6_grows 31 = .ok (.bipush (-6), 2) := by decide +kernel
theorem dX6_grows_33 : decode cX6_grows 33 = .ok (.goto 8, 3) := by decide +kernel
theorem dX6_grows_36 : decode cX6_grows 36 = .ok (.iload_n 3, 1) := by decide +kernel
theorem dX6_grows_37 : decode cX6_grows 37 = .ok (.iload_n 2, 1) := by decide +kernel
theorem dX6_grows_38 : decode cX6_grows 38 = .ok (.isub, 1) := by decide +kernel
theorem dX6_grows_39 : decode cX6_grows 39 = .ok (.iconst 1, 1) := by decide +kernel
theorem dX6_grows_40 : decode cX6_grows 40 = .ok (.iadd, 1) := by decide +kernel
theorem dX6_grows_41 : decode cX6_grows 41 = .ok (.ireturn, 1) := by decide +kernel
theorem dX6_safe_0 : decode cX6_safe 0 = .ok (.aload_n 0, 1) := by decide +kernel
theorem dX6_safe_1 : decode cX6_safe 1 = .ok (.bipush 120, 2) := by decide +kernel
theorem dX6_safe_3 : decode cX6_safe 3 = .ok (.invokevirtual 120, 3) := by decide +kernel
theorem dX6_safe_6 : decode cX6_safe 6 = .ok (.istore_n 2, 1) := by decide +kernel
theorem dX6_safe_7 : decode cX6_safe 7 = .ok (.iconst 0, 1) := by decide +kernel
theorem dX6_safe_8 : decode cX6_safe 8 = .ok (.istore_n 3, 1) := by decide +kernel
theorem dX6_safe_9 : decode cX6_safe 9 = .ok (.bipush 33, 2) := by decide +kernel
theorem dX6_safe_11 : decode cX6_safe 11 = .ok (.istore 4, 2) := by decide +kernel
theorem dX6_safe_13 : decode cX6_safe 13 = .ok (.iload_n 2, 1) := by decide +kernel
theorem dX6_safe_14 : decode cX6_safe 14 = .ok (.ifCond .lt 37, 3) := by decide +kernel
theorem dX6_safe_17 : decode cX6_safe 17 = .ok (.iload 4, 2) := by decide +kernel
theorem dX6_safe_19 : decode cX6_safe 19 = .ok (.bipush 126, 2) := by decide +kernel
theorem dX6_safe_21 : decode cX6_safe 21 = .ok (.if_icmp .gt 30, 3) := by decide +kernel
theorem dX6_safe_24 : decode cX6_safe 24 = .ok (.aload_n 0, 1) := by decide +kernel
theorem dX6_safe_25 : decode cX6_safe 25 = .ok (.iload 4, 2) := by decide +kernel
theorem dX6_safe_27 : decode cX6_safe 27 = .ok (.invokevirtual 120, 3) := by decide +kernel
theorem dX6_safe_30 : decode cX6_safe 30 = .ok (.iload_n 2, 1) := by decide +kernel
theorem dX6_safe_31 : decode cX6_safe 31 = .ok (.if_icmp .ne 14, 3) := by decide +kernel
theorem dX6_safe_34 : decode cX6_safe 34 = .ok (.iload_n 3, 1) := by decide +kernel
theorem dX6_safe_35 : decode cX6_safe 35 = .ok (.iload_n 1, 1) := by decide +kernel
theorem dX6_safe_36 : decode cX6_safe 36 = .ok (.if_icmp .ne 6, 3) := by decide +kernel
theorem dX6_safe_39 : decode cX6_safe 39 = .ok (.iload 4, 2) := by decide +kernel
theorem dX6_safe_41 : decode cX6_safe 41 = .ok (.ireturn, 1) := by decide +kernel
theorem dX6_safe_42 : decode cX6_safe 42 = .ok (.iinc 3 1, 3) := by decide +kernel
theorem dX6_safe_45 : decode cX6_safe 45 = .ok (.iinc 4 1, 3) := by decide +kernel
theorem dX6_safe_48 : decode cX6_safe 48 = .ok (.goto (-35), 3) := by decide +kernel
theorem dX6_safe_51 : decode cX6_safe 51 = .ok (.iload_n 1, 1) := by decide +kernel
theorem dX6_safe_52 : decode cX6_safe 52 = .ok (.iconst (-1), 1) := by decide +kernel
theorem dX6_safe_53 : decode cX6_safe 53 = .ok (.if_icmp .ne 7, 3) := by decide +kernel
theorem dX6_safe_56 : decode cX6_safe 56 = .ok (.iload_n 3, 1) := by decide +kernel
theorem dX6_safe_57 : decode cX6_safe 57 = .ok (.goto 5, 3) := by decide +kernel
theorem dX6_safe_60 : decode cX6_safe 60 = .ok (.bipush (-6), 2) := by decide +kernel
theorem dX6_safe_62 : decode cX6_safe 62 = .ok (.ireturn, 1) := by decide +kernel
theorem dX6_dearest_0 : decode cX6_dearest 0 = .ok (.aload_n 0, 1) := by decide +kernel
theorem dX6_dearest_1 : decode cX6_dearest 1 = .ok (.bipush 120, 2) := by decide +kernel
theorem dX6_dearest_3 : decode cX6_dearest 3 = .ok (.invokevirtual 120, 3) := by decide +kernel
theorem dX6_dearest_6 : decode cX6_dearest 6 = .ok (.ifCond .ge 6, 3) := by decide +kernel
theorem dX6_dearest_9 : decode cX6_dearest 9 = .ok (.bipush (-6), 2) := by decide +kernel
theorem dX6_dearest_11 : decode cX6_dearest 11 = .ok (.ireturn, 1) := by decide +kernel
theorem dX6_dearest_12 : decode cX6_dearest 12 = .ok (.bipush (-6), 2) := by decide +kernel
theorem dX6_dearest_14 : decode cX6_dearest 14 = .ok (.istore_n 1, 1) := by decide +kernel
theorem dX6_dearest_15 : decode cX6_dearest 15 = .ok (.iconst 0, 1) := by decide +kernel
theorem dX6_dearest_16 : decode cX6_dearest 16 = .ok (.istore_n 2, 1) := by decide +kernel
theorem dX6_dearest_17 : decode cX6_dearest 17 = .ok (.bipush 33, 2) := by decide +kernel
theorem dX6_dearest_19 : decode cX6_dearest 19 = .ok (.istore_n 3, 1) := by decide +kernel
theorem dX6_dearest_20 : decode cX6_dearest 20 = .ok (.iload_n 3, 1) := by decide +kernel
theorem dX6_dearest_21 : decode cX6_dearest 21 = .ok (.bipush 126, 2) := by decide +kernel
theorem dX6_dearest_23 : decode cX6_dearest 23 = .ok (.if_icmp .gt 27, 3) := by decide +kernel
theorem dX6_dearest_26 : decode cX6_dearest 26 = .ok (.aload_n 0, 1) := by decide +kernel
theorem dX6_dearest_27 : decode cX6_dearest 27 = .ok (.iload_n 3, 1) := by decide +kernel
theorem dX6_dearest_28 : decode cX6_dearest 28 = .ok (.invokevirtual 120, 3) := by decide +kernel
theorem dX6_dearest_31 : decode cX6_dearest 31 = .ok (.istore 4, 2) := by decide +kernel
theorem dX6_dearest_33 : decode cX6_dearest 33 = .ok (.iload 4, 2) := by decide +kernel
theorem dX6_dearest_35 : decode cX6_dearest 35 = .ok (.iload_n 2, 1) := by decide +kernel
theorem dX6_dearest_36 : decode cX6_dearest 36 = .ok (.if_icmp .le 8, 3) := by decide +kernel
theorem dX6_dearest_39 : decode cX6_dearest 39 = .ok (.iload 4, 2) := by decide +kernel
theorem dX6_dearest_41 : decode cX6_dearest 41 = .ok (.istore_n 2, 1) := by decide +kernel
theorem dX6_dearest_42 : decode cX6_dearest 42 = .ok (.iload_n 3, 1) := by decide +kernel
theorem dX6_dearest_43 : decode cX6_dearest 43 = .ok (.istore_n 1, 1) := by decide +kernel
theorem dX6_dearest_44 : decode cX6_dearest 44 = .ok (.iinc 3 1, 3) := by decide +kernel
theorem dX6_dearest_47 : decode cX6_dearest 47 = .ok (.goto (-27), 3) := by decide +kernel
theorem dX6_dearest_50 : decode cX6_dearest 50 = .ok (.iload_n 1, 1) := by decide +kernel
theorem dX6_dearest_51 : decode cX6_dearest 51 = .ok (.ireturn, 1) := by decide +kernel
theorem dX6_read_0 : decode cX6_read 0 = .ok (.aload_n 0, 1) := by decide +kernel
theorem dX6_read_1 : decode cX6_read 1 = .ok (.getfield 14, 3) := by decide +kernel
theorem dX6_read_4 : decode cX6_read 4 = .ok (.invokevirtual 54, 3) := by decide +kernel
theorem dX6_read_7 : decode cX6_read 7 = .ok (.ifCond .ne 6, 3) := by decide +kernel
theorem dX6_read_10 : decode cX6_read 10 = .ok (.bipush (-3), 2) := by decide +kernel
theorem dX6_read_12 : decode cX6_read 12 = .ok (.ireturn, 1) := by decide +kernel
theorem dX6_read_13 : decode cX6_read 13 = .ok (.aload_n 0, 1) := by decide +kernel
theorem dX6_read_14 : decode cX6_read 14 = .ok (.getfield 34, 3) := by decide +kernel
theorem dX6_read_17 : decode cX6_read 17 = .ok (.aload_n 0, 1) := by decide +kernel
theorem dX6_read_18 : decode cX6_read 18 = .ok (.getfield 14, 3) := by decide +kernel
theorem dX6_read_21 : decode cX6_read 21 = .ok (.invokevirtual 123, 3) := by decide +kernel
theorem dX6_read_24 : decode cX6_read 24 = .ok (.aload_n 0, 1) := by decide +kernel
theorem dX6_read_25 : decode cX6_read 25 = .ok (.getfield 34, 3) := by decide +kernel
theorem dX6_read_28 : decode cX6_read 28 = .ok (.aload_n 0, 1) := by decide +kernel
theorem dX6_read_29 : decode cX6_read 29 = .ok (.getfield 21, 3) := by decide +kernel
theorem dX6_read_32 : decode cX6_read 32 = .ok (.aload_n 0, 1) := by decide +kernel
theorem dX6_read_33 : decode cX6_read 33 = .ok (.getfield 21, 3) := by decide +kernel
theorem dX6_read_36 : decode cX6_read 36 = .ok (.getfield 90, 3) := by decide +kernel
theorem dX6_read_39 : decode cX6_read 39 = .ok (.invokevirtual 126, 3) := by decide +kernel
theorem dX6_read_42 : decode cX6_read 42 = .ok (.istore_n 2, 1) := by decide +kernel
theorem dX6_read_43 : decode cX6_read 43 = .ok (.iload_n 1, 1) := by decide +kernel
theorem dX6_read_44 : decode cX6_read 44 = .ok (.iconst (-1), 1) := by decide +kernel
theorem dX6_read_45 : decode cX6_read 45 = .ok (.if_icmp .ne 5, 3) := by decide +kernel
theorem dX6_read_48 : decode cX6_read 48 = .ok (.iload_n 2, 1) := by decide +kernel
theorem dX6_read_49 : decode cX6_read 49 = .ok (.ireturn, 1) := by decide +kernel
theorem dX6_read_50 : decode cX6_read 50 = .ok (.iload_n 1, 1) := by decide +kernel
theorem dX6_read_51 : decode cX6_read 51 = .ok (.bipush (-2), 2) := by decide +kernel
theorem dX6_read_53 : decode cX6_read 53 = .ok (.if_icmp .ne 11, 3) := by decide +kernel
theorem dX6_read_56 : decode cX6_read 56 = .ok (.aload_n 0, 1) := by decide +kernel
theorem dX6_read_57 : decode cX6_read 57 = .ok (.getfield 34, 3) := by decide +kernel
theorem dX6_read_60 : decode cX6_read 60 = .ok (.invokevirtual 130, 3) := by decide +kernel
theorem dX6_read_63 : decode cX6_read 63 = .ok (.ireturn, 1) := by decide +kernel
theorem dX6_read_64 : decode cX6_read 64 = .ok (.iload_n 2, 1) := by decide +kernel
theorem dX6_read_65 : decode cX6_read 65 = .ok (.bipush (-6), 2) := by decide +kernel
theorem dX6_read_67 : decode cX6_read 67 = .ok (.if_icmp .eq 6, 3) := by decide +kernel
theorem dX6_read_70 : decode cX6_read 70 = .ok (.bipush (-6), 2) := by decide +kernel
theorem dX6_read_72 : decode cX6_read 72 = .ok (.ireturn, 1) := by decide +kernel
theorem dX6_read_73 : decode cX6_read 73 = .ok (.iload_n 1, 1) := by decide +kernel
theorem dX6_read_74 : decode cX6_read 74 = .ok (.bipush (-3), 2) := by decide +kernel
theorem dX6_read_76 : decode cX6_read 76 = .ok (.if_icmp .ne 16, 3) := by decide +kernel
theorem dX6_read_79 : decode cX6_read 79 = .ok (.aload_n 0, 1) := by decide +kernel
theorem dX6_read_80 : decode cX6_read 80 = .ok (.getfield 34, 3) := by decide +kernel
theorem dX6_read_83 : decode cX6_read 83 = .ok (.invokevirtual 110, 3) := by decide +kernel
theorem dX6_read_86 : decode cX6_read 86 = .ok (.invokevirtual 54, 3) := by decide +kernel
theorem dX6_read_89 : decode cX6_read 89 = .ok (.goto 14, 3) := by decide +kernel
theorem dX6_read_92 : decode cX6_read 92 = .ok (.aload_n 0, 1) := by decide +kernel
theorem dX6_read_93 : decode cX6_read 93 = .ok (.getfield 34, 3) := by decide +kernel
theorem dX6_read_96 : decode cX6_read 96 = .ok (.invokevirtual 110, 3) := by decide +kernel
theorem dX6_read_99 : decode cX6_read 99 = .ok (.iload_n 1, 1) := by decide +kernel
theorem dX6_read_100 : decode cX6_read 100 = .ok (.invokevirtual 114, 3) := by decide +kernel
theorem dX6_read_103 : decode cX6_read 103 = .ok (.ireturn, 1) := by decide +kernel
theorem dX6_spills_0 : decode cX6_spills 0 = .ok (.aload_n 0, 1) := by decide +kernel
theorem dX6_spills_1 : decode cX6_spills 1 = .ok (.iload_n 1, 1) := by decide +kernel
theorem dX6_spills_2 : decode cX6_spills 2 = .ok (.invokevirtual 133, 3) := by decide +kernel
theorem dX6_spills_5 : decode cX6_spills 5 = .ok (.ifCond .ne 6, 3) := by decide +kernel
theorem dX6_spills_8 : decode cX6_spills 8 = .ok (.bipush (-2), 2) := by decide +kernel
theorem dX6_spills_10 : decode cX6_spills 10 = .ok (.ireturn, 1) := by decide +kernel
theorem dX6_spills_11 : decode cX6_spills 11 = .ok (.aload_n 0, 1) := by decide +kernel
theorem dX6_spills_12 : decode cX6_spills 12 = .ok (.aload_n 0, 1) := by decide +kernel
theorem dX6_spills_13 : decode cX6_spills 13 = .ok (.getfield 21, 3) := by decide +kernel
theorem dX6_spills_16 : decode cX6_spills 16 = .ok (.getfield 96, 3) := by decide +kernel
theorem dX6_spills_19 : decode cX6_spills 19 = .ok (.aload_n 0, 1) := by decide +kernel
theorem dX6_spills_20 : decode cX6_spills 20 = .ok (.getfield 21, 3) := by decide +kernel
theorem dX6_spills_23 : decode cX6_spills 23 = .ok (.getfield 90, 3) := by decide +kernel
theorem dX6_spills_26 : decode cX6_spills 26 = .ok (.iload_n 1, 1) := by decide +kernel
theorem dX6_spills_27 : decode cX6_spills 27 = .ok (.invokevirtual 136, 3) := by decide +kernel
theorem dX6_spills_30 : decode cX6_spills 30 = .ok (.ireturn, 1) := by decide +kernel
theorem dX6_spill_0 : decode cX6_spill 0 = .ok (.aload_n 0, 1) := by decide +kernel
theorem dX6_spill_1 : decode cX6_spill 1 = .ok (.iload_n 1, 1) := by decide +kernel
theorem dX6_spill_2 : decode cX6_spill 2 = .ok (.invokevirtual 133, 3) := by decide +kernel
theorem dX6_spill_5 : decode cX6_spill 5 = .ok (.ifCond .ne 6, 3) := by decide +kernel
theorem dX6_spill_8 : decode cX6_spill 8 = .ok (.bipush (-2), 2) := by decide +kernel
theorem dX6_spill_10 : decode cX6_spill 10 = .ok (.ireturn, 1) := by decide +kernel
theorem dX6_spill_11 : decode cX6_spill 11 = .ok (.aload_n 0, 1) := by decide +kernel
theorem dX6_spill_12 : decode cX6_spill 12 = .ok (.invokevirtual 140, 3) := by decide +kernel
theorem dX6_spill_15 : decode cX6_spill 15 = .ok (.ifCond .ne 6, 3) := by decide +kernel
theorem dX6_spill_18 : decode cX6_spill 18 = .ok (.bipush (-3), 2) := by decide +kernel
theorem dX6_spill_20 : decode cX6_spill 20 = .ok (.ireturn, 1) := by decide +kernel
theorem dX6_spill_21 : decode cX6_spill 21 = .ok (.aload_n 0, 1) := by decide +kernel
theorem dX6_spill_22 : decode cX6_spill 22 = .ok (.iload_n 1, 1) := by decide +kernel
theorem dX6_spill_23 : decode cX6_spill 23 = .ok (.invokevirtual 144, 3) := by decide +kernel
theorem dX6_spill_26 : decode cX6_spill 26 = .ok (.ifCond .ne 6, 3) := by decide +kernel
theorem dX6_spill_29 : decode cX6_spill 29 = .ok (.bipush (-6), 2) := by decide +kernel
theorem dX6_spill_31 : decode cX6_spill 31 = .ok (.ireturn, 1) := by decide +kernel
theorem dX6_spill_32 : decode cX6_spill 32 = .ok (.iload_n 2, 1) := by decide +kernel
theorem dX6_spill_33 : decode cX6_spill 33 = .ok (.iconst (-1), 1) := by decide +kernel
theorem dX6_spill_34 : decode cX6_spill 34 = .ok (.if_icmp .ne 13, 3) := by decide +kernel
theorem dX6_spill_37 : decode cX6_spill 37 = .ok (.aload_n 0, 1) := by decide +kernel
theorem dX6_spill_38 : decode cX6_spill 38 = .ok (.getfield 38, 3) := by decide +kernel
theorem dX6_spill_41 : decode cX6_spill 41 = .ok (.invokevirtual 54, 3) := by decide +kernel
theorem dX6_spill_44 : decode cX6_spill 44 = .ok (.goto 11, 3) := by decide +kernel
theorem dX6_spill_47 : decode cX6_spill 47 = .ok (.aload_n 0, 1) := by decide +kernel
theorem dX6_spill_48 : decode cX6_spill 48 = .ok (.getfield 38, 3) := by decide +kernel
theorem dX6_spill_51 : decode cX6_spill 51 = .ok (.iload_n 2, 1) := by decide +kernel
theorem dX6_spill_52 : decode cX6_spill 52 = .ok (.invokevirtual 114, 3) := by decide +kernel
theorem dX6_spill_55 : decode cX6_spill 55 = .ok (.ireturn, 1) := by decide +kernel
theorem dX6_twice_0 : decode cX6_twice 0 = .ok (.aload_n 0, 1) := by decide +kernel
theorem dX6_twice_1 : decode cX6_twice 1 = .ok (.iload_n 1, 1) := by decide +kernel
theorem dX6_twice_2 : decode cX6_twice 2 = .ok (.invokevirtual 133, 3) := by decide +kernel
theorem dX6_twice_5 : decode cX6_twice 5 = .ok (.ifCond .ne 6, 3) := by decide +kernel
theorem dX6_twice_8 : decode cX6_twice 8 = .ok (.bipush (-2), 2) := by decide +kernel
theorem dX6_twice_10 : decode cX6_twice 10 = .ok (.ireturn, 1) := by decide +kernel
theorem dX6_twice_11 : decode cX6_twice 11 = .ok (.aload_n 0, 1) := by decide +kernel
theorem dX6_twice_12 : decode cX6_twice 12 = .ok (.getfield 41, 3) := by decide +kernel
theorem dX6_twice_15 : decode cX6_twice 15 = .ok (.invokevirtual 61, 3) := by decide +kernel
theorem dX6_twice_18 : decode cX6_twice 18 = .ok (.iconst 0, 1) := by decide +kernel
theorem dX6_twice_19 : decode cX6_twice 19 = .ok (.istore_n 2, 1) := by decide +kernel
theorem dX6_twice_20 : decode cX6_twice 20 = .ok (.iload_n 2, 1) := by decide +kernel
theorem dX6_twice_21 : decode cX6_twice 21 = .ok (.aload_n 0, 1) := by decide +kernel
theorem dX6_twice_22 : decode cX6_twice 22 = .ok (.getfield 21, 3) := by decide +kernel
theorem dX6_twice_25 : decode cX6_twice 25 = .ok (.getfield 90, 3) := by decide +kernel
theorem dX6_twice_28 : decode cX6_twice 28 = .ok (.invokevirtual 54, 3) := by decide +kernel
theorem dX6_twice_31 : decode cX6_twice 31 = .ok (.if_icmp .ge 50, 3) := by decide +kernel
theorem dX6_twice_34 : decode cX6_twice 34 = .ok (.aload_n 0, 1) := by decide +kernel
theorem dX6_twice_35 : decode cX6_twice 35 = .ok (.getfield 41, 3) := by decide +kernel
theorem dX6_twice_38 : decode cX6_twice 38 = .ok (.aload_n 0, 1) := by decide +kernel
theorem dX6_twice_39 : decode cX6_twice 39 = .ok (.getfield 21, 3) := by decide +kernel
theorem dX6_twice_42 : decode cX6_twice 42 = .ok (.getfield 90, 3) := by decide +kernel
theorem dX6_twice_45 : decode cX6_twice 45 = .ok (.iload_n 2, 1) := by decide +kernel
theorem dX6_twice_46 : decode cX6_twice 46 = .ok (.invokevirtual 114, 3) := by decide +kernel
theorem dX6_twice_49 : decode cX6_twice 49 = .ok (.invokevirtual 58, 3) := by decide +kernel
theorem dX6_twice_52 : decode cX6_twice 52 = .ok (.iload_n 2, 1) := by decide +kernel
theorem dX6_twice_53 : decode cX6_twice 53 = .ok (.iload_n 1, 1) := by decide +kernel
theorem dX6_twice_54 : decode cX6_twice 54 = .ok (.if_icmp .ne 21, 3) := by decide +kernel
theorem dX6_twice_57 : decode cX6_twice 57 = .ok (.aload_n 0, 1) := by decide +kernel
theorem dX6_twice_58 : decode cX6_twice 58 = .ok (.getfield 41, 3) := by decide +kernel
theorem dX6_twice_61 : decode cX6_twice 61 = .ok (.aload_n 0, 1) := by decide +kernel
theorem dX6_twice_62 : decode cX6_twice 62 = .ok (.getfield 21, 3) := by decide +kernel
theorem dX6_twice_65 : decode cX6_twice 65 = .ok (.getfield 90, 3) := by decide +kernel
theorem dX6_twice_68 : decode cX6_twice 68 = .ok (.iload_n 2, 1) := by decide +kernel
theorem dX6_twice_69 : decode cX6_twice 69 = .ok (.invokevirtual 114, 3) := by decide +kernel
theorem dX6_twice_72 : decode cX6_twice 72 = .ok (.invokevirtual 58, 3) := by decide +kernel
theorem dX6_twice_75 : decode cX6_twice 75 = .ok (.iinc 2 1, 3) := by decide +kernel
theorem dX6_twice_78 : decode cX6_twice 78 = .ok (.goto (-58), 3) := by decide +kernel
theorem dX6_twice_81 : decode cX6_twice 81 = .ok (.aload_n 0, 1) := by decide +kernel
theorem dX6_twice_82 : decode cX6_twice 82 = .ok (.aload_n 0, 1) := by decide +kernel
theorem dX6_twice_83 : decode cX6_twice 83 = .ok (.getfield 21, 3) := by decide +kernel
theorem dX6_twice_86 : decode cX6_twice 86 = .ok (.getfield 96, 3) := by decide +kernel
theorem dX6_twice_89 : decode cX6_twice 89 = .ok (.aload_n 0, 1) := by decide +kernel
theorem dX6_twice_90 : decode cX6_twice 90 = .ok (.getfield 41, 3) := by decide +kernel
theorem dX6_twice_93 : decode cX6_twice 93 = .ok (.bipush (-6), 2) := by decide +kernel
theorem dX6_twice_95 : decode cX6_twice 95 = .ok (.invokevirtual 136, 3) := by decide +kernel
theorem dX6_twice_98 : decode cX6_twice 98 = .ok (.ireturn, 1) := by decide +kernel
theorem dX6_rows_0 : decode cX6_rows 0 = .ok (.aload_n 0, 1) := by decide +kernel
theorem dX6_rows_1 : decode cX6_rows 1 = .ok (.getfield 14, 3) := by decide +kernel
theorem dX6_rows_4 : decode cX6_rows 4 = .ok (.invokevirtual 54, 3) := by decide +kernel
theorem dX6_rows_7 : decode cX6_rows 7 = .ok (.ifCond .ne 6, 3) := by decide +kernel
theorem dX6_rows_10 : decode cX6_rows 10 = .ok (.bipush (-3), 2) := by decide +kernel
theorem dX6_rows_12 : decode cX6_rows 12 = .ok (.ireturn, 1) := by decide +kernel
end
section
theorem dX6_rows_13 : decode cX6_rows 13 = .ok (.iconst 0, 1) := by decide +kernel
theorem dX6_rows_14 : decode cX6_rows 14 = .ok (.istore_n 2, 1) := by decide +kernel
theorem dX6_rows_15 : decode cX6_rows 15 = .ok (.iconst 1, 1) := by decide +kernel
theorem dX6_rows_16 : decode cX6_rows 16 = .ok (.istore_n 3, 1) := by decide +kernel
theorem dX6_rows_17 : decode cX6_rows 17 = .ok (.iload_n 3, 1) := by decide +kernel
theorem dX6_rows_18 : decode cX6_rows 18 = .ok (.iconst 3, 1) := by decide +kernel
theorem dX6_rows_19 : decode cX6_rows 19 = .ok (.if_icmp .gt 78, 3) := by decide +kernel
theorem dX6_rows_22 : decode cX6_rows 22 = .ok (.aload_n 0, 1) := by decide +kernel
theorem dX6_rows_23 : decode cX6_rows 23 = .ok (.getfield 44, 3) := by decide +kernel
theorem dX6_rows_26 : decode cX6_rows 26 = .ok (.iload_n 3, 1) := by decide +kernel
theorem dX6_rows_27 : decode cX6_rows 27 = .ok (.invokevirtual 147, 3) := by decide +kernel
theorem dX6_rows_30 : decode cX6_rows 30 = .ok (.istore 4, 2) := by decide +kernel
theorem dX6_rows_32 : decode cX6_rows 32 = .ok (.iconst 0, 1) := by decide +kernel
theorem dX6_rows_33 : decode cX6_rows 33 = .ok (.istore 5, 2) := by decide +kernel
theorem dX6_rows_35 : decode cX6_rows 35 = .ok (.iload 4, 2) := by decide +kernel
theorem dX6_rows_37 : decode cX6_rows 37 = .ok (.ifCond .eq 54, 3) := by decide +kernel
theorem dX6_rows_40 : decode cX6_rows 40 = .ok (.iload 5, 2) := by decide +kernel
theorem dX6_rows_42 : decode cX6_rows 42 = .ok (.sipush 625, 3) := by decide +kernel
theorem dX6_rows_45 : decode cX6_rows 45 = .ok (.if_icmp .ge 46, 3) := by decide +kernel
theorem dX6_rows_48 : decode cX6_rows 48 = .ok (.aload_n 0, 1) := by decide +kernel
theorem dX6_rows_49 : decode cX6_rows 49 = .ok (.aload_n 0, 1) := by decide +kernel
theorem dX6_rows_50 : decode cX6_rows 50 = .ok (.getfield 44, 3) := by decide +kernel
theorem dX6_rows_53 : decode cX6_rows 53 = .ok (.invokevirtual 150, 3) := by decide +kernel
theorem dX6_rows_56 : decode cX6_rows 56 = .ok (.ifCond .eq 19, 3) := by decide +kernel
theorem dX6_rows_59 : decode cX6_rows 59 = .ok (.iload_n 2, 1) := by decide +kernel
theorem dX6_rows_60 : decode cX6_rows 60 = .ok (.iload_n 1, 1) := by decide +kernel
theorem dX6_rows_61 : decode cX6_rows 61 = .ok (.if_icmp .ne 11, 3) := by decide +kernel
theorem dX6_rows_64 : decode cX6_rows 64 = .ok (.aload_n 0, 1) := by decide +kernel
theorem dX6_rows_65 : decode cX6_rows 65 = .ok (.getfield 44, 3) := by decide +kernel
theorem dX6_rows_68 : decode cX6_rows 68 = .ok (.invokestatic 154, 3) := by decide +kernel
theorem dX6_rows_71 : decode cX6_rows 71 = .ok (.ireturn, 1) := by decide +kernel
theorem dX6_rows_72 : decode cX6_rows 72 = .ok (.iinc 2 1, 3) := by decide +kernel
theorem dX6_rows_75 : decode cX6_rows 75 = .ok (.aload_n 0, 1) := by decide +kernel
theorem dX6_rows_76 : decode cX6_rows 76 = .ok (.getfield 44, 3) := by decide +kernel
theorem dX6_rows_79 : decode cX6_rows 79 = .ok (.iconst 5, 1) := by decide +kernel
theorem dX6_rows_80 : decode cX6_rows 80 = .ok (.invokestatic 157, 3) := by decide +kernel
theorem dX6_rows_83 : decode cX6_rows 83 = .ok (.istore 4, 2) := by decide +kernel
theorem dX6_rows_85 : decode cX6_rows 85 = .ok (.iinc 5 1, 3) := by decide +kernel
theorem dX6_rows_88 : decode cX6_rows 88 = .ok (.goto (-53), 3) := by decide +kernel
theorem dX6_rows_91 : decode cX6_rows 91 = .ok (.iinc 3 1, 3) := by decide +kernel
theorem dX6_rows_94 : decode cX6_rows 94 = .ok (.goto (-77), 3) := by decide +kernel
theorem dX6_rows_97 : decode cX6_rows 97 = .ok (.iload_n 1, 1) := by decide +kernel
theorem dX6_rows_98 : decode cX6_rows 98 = .ok (.iconst (-1), 1) := by decide +kernel
theorem dX6_rows_99 : decode cX6_rows 99 = .ok (.if_icmp .ne 7, 3) := by decide +kernel
theorem dX6_rows_102 : decode cX6_rows 102 = .ok (.iload_n 2, 1) := by decide +kernel
theorem dX6_rows_103 : decode cX6_rows 103 = .ok (.goto 5, 3) := by decide +kernel
theorem dX6_rows_106 : decode cX6_rows 106 = .ok (.bipush (-6), 2) := by decide +kernel
theorem dX6_rows_108 : decode cX6_rows 108 = .ok (.ireturn, 1) := by decide +kernel
theorem dX6_order_0 : decode cX6_order 0 = .ok (.aload_n 0, 1) := by decide +kernel
theorem dX6_order_1 : decode cX6_order 1 = .ok (.invokevirtual 163, 3) := by decide +kernel
theorem dX6_order_4 : decode cX6_order 4 = .ok (.istore_n 2, 1) := by decide +kernel
theorem dX6_order_5 : decode cX6_order 5 = .ok (.iload_n 1, 1) := by decide +kernel
theorem dX6_order_6 : decode cX6_order 6 = .ok (.iconst (-1), 1) := by decide +kernel
theorem dX6_order_7 : decode cX6_order 7 = .ok (.if_icmp .ne 7, 3) := by decide +kernel
theorem dX6_order_10 : decode cX6_order 10 = .ok (.iload_n 2, 1) := by decide +kernel
theorem dX6_order_11 : decode cX6_order 11 = .ok (.goto 11, 3) := by decide +kernel
theorem dX6_order_14 : decode cX6_order 14 = .ok (.aload_n 0, 1) := by decide +kernel
theorem dX6_order_15 : decode cX6_order 15 = .ok (.getfield 47, 3) := by decide +kernel
theorem dX6_order_18 : decode cX6_order 18 = .ok (.iload_n 1, 1) := by decide +kernel
theorem dX6_order_19 : decode cX6_order 19 = .ok (.invokevirtual 114, 3) := by decide +kernel
theorem dX6_order_22 : decode cX6_order 22 = .ok (.ireturn, 1) := by decide +kernel
theorem dX6_image_0 : decode cX6_image 0 = .ok (.iload_n 1, 1) := by decide +kernel
theorem dX6_image_1 : decode cX6_image 1 = .ok (.invokestatic 166, 3) := by decide +kernel
theorem dX6_image_4 : decode cX6_image 4 = .ok (.ifCond .ne 6, 3) := by decide +kernel
theorem dX6_image_7 : decode cX6_image 7 = .ok (.bipush (-2), 2) := by decide +kernel
theorem dX6_image_9 : decode cX6_image 9 = .ok (.ireturn, 1) := by decide +kernel
theorem dX6_image_10 : decode cX6_image 10 = .ok (.aload_n 0, 1) := by decide +kernel
theorem dX6_image_11 : decode cX6_image 11 = .ok (.iload_n 1, 1) := by decide +kernel
theorem dX6_image_12 : decode cX6_image 12 = .ok (.invokevirtual 169, 3) := by decide +kernel
theorem dX6_image_15 : decode cX6_image 15 = .ok (.astore_n 2, 1) := by decide +kernel
theorem dX6_image_16 : decode cX6_image 16 = .ok (.aload_n 2, 1) := by decide +kernel
theorem dX6_image_17 : decode cX6_image 17 = .ok (.aload_n 0, 1) := by decide +kernel
theorem dX6_image_18 : decode cX6_image 18 = .ok (.getfield 21, 3) := by decide +kernel
theorem dX6_image_21 : decode cX6_image 21 = .ok (.invokevirtual 173, 3) := by decide +kernel
theorem dX6_image_24 : decode cX6_image 24 = .ok (.aload_n 2, 1) := by decide +kernel
theorem dX6_image_25 : decode cX6_image 25 = .ok (.iconst 1, 1) := by decide +kernel
theorem dX6_image_26 : decode cX6_image 26 = .ok (.putfield 176, 3) := by decide +kernel
theorem dX6_image_29 : decode cX6_image 29 = .ok (.iconst 1, 1) := by decide +kernel
theorem dX6_image_30 : decode cX6_image 30 = .ok (.ireturn, 1) := by decide +kernel
theorem dX6_restore_0 : decode cX6_restore 0 = .ok (.iload_n 1, 1) := by decide +kernel
theorem dX6_restore_1 : decode cX6_restore 1 = .ok (.invokestatic 166, 3) := by decide +kernel
theorem dX6_restore_4 : decode cX6_restore 4 = .ok (.ifCond .ne 6, 3) := by decide +kernel
theorem dX6_restore_7 : decode cX6_restore 7 = .ok (.bipush (-2), 2) := by decide +kernel
theorem dX6_restore_9 : decode cX6_restore 9 = .ok (.ireturn, 1) := by decide +kernel
theorem dX6_restore_10 : decode cX6_restore 10 = .ok (.aload_n 0, 1) := by decide +kernel
theorem dX6_restore_11 : decode cX6_restore 11 = .ok (.iload_n 1, 1) := by decide +kernel
theorem dX6_restore_12 : decode cX6_restore 12 = .ok (.invokevirtual 169, 3) := by decide +kernel
theorem dX6_restore_15 : decode cX6_restore 15 = .ok (.astore_n 2, 1) := by decide +kernel
theorem dX6_restore_16 : decode cX6_restore 16 = .ok (.aload_n 2, 1) := by decide +kernel
theorem dX6_restore_17 : decode cX6_restore 17 = .ok (.getfield 176, 3) := by decide +kernel
theorem dX6_restore_20 : decode cX6_restore 20 = .ok (.ifCond .ne 6, 3) := by decide +kernel
theorem dX6_restore_23 : decode cX6_restore 23 = .ok (.bipush (-3), 2) := by decide +kernel
theorem dX6_restore_25 : decode cX6_restore 25 = .ok (.ireturn, 1) := by decide +kernel
theorem dX6_restore_26 : decode cX6_restore 26 = .ok (.aload_n 0, 1) := by decide +kernel
theorem dX6_restore_27 : decode cX6_restore 27 = .ok (.getfield 21, 3) := by decide +kernel
theorem dX6_restore_30 : decode cX6_restore 30 = .ok (.aload_n 2, 1) := by decide +kernel
theorem dX6_restore_31 : decode cX6_restore 31 = .ok (.invokevirtual 173, 3) := by decide +kernel
theorem dX6_restore_34 : decode cX6_restore 34 = .ok (.iconst 1, 1) := by decide +kernel
theorem dX6_restore_35 : decode cX6_restore 35 = .ok (.ireturn, 1) := by decide +kernel
theorem dX6_told_0 : decode cX6_told 0 = .ok (.iload_n 1, 1) := by decide +kernel
theorem dX6_told_1 : decode cX6_told 1 = .ok (.ifCond .ne 11, 3) := by decide +kernel
theorem dX6_told_4 : decode cX6_told 4 = .ok (.aload_n 0, 1) := by decide +kernel
theorem dX6_told_5 : decode cX6_told 5 = .ok (.getfield 14, 3) := by decide +kernel
theorem dX6_told_8 : decode cX6_told 8 = .ok (.invokevirtual 54, 3) := by decide +kernel
theorem dX6_told_11 : decode cX6_told 11 = .ok (.ireturn, 1) := by decide +kernel
theorem dX6_told_12 : decode cX6_told 12 = .ok (.iload_n 1, 1) := by decide +kernel
theorem dX6_told_13 : decode cX6_told 13 = .ok (.iconst 1, 1) := by decide +kernel
theorem dX6_told_14 : decode cX6_told 14 = .ok (.if_icmp .ne 14, 3) := by decide +kernel
theorem dX6_told_17 : decode cX6_told 17 = .ok (.aload_n 0, 1) := by decide +kernel
theorem dX6_told_18 : decode cX6_told 18 = .ok (.getfield 21, 3) := by decide +kernel
theorem dX6_told_21 : decode cX6_told 21 = .ok (.getfield 96, 3) := by decide +kernel
theorem dX6_told_24 : decode cX6_told 24 = .ok (.invokevirtual 54, 3) := by decide +kernel
theorem dX6_told_27 : decode cX6_told 27 = .ok (.ireturn, 1) := by decide +kernel
theorem dX6_told_28 : decode cX6_told 28 = .ok (.iload_n 1, 1) := by decide +kernel
theorem dX6_told_29 : decode cX6_told 29 = .ok (.iconst 2, 1) := by decide +kernel
theorem dX6_told_30 : decode cX6_told 30 = .ok (.if_icmp .ne 14, 3) := by decide +kernel
theorem dX6_told_33 : decode cX6_told 33 = .ok (.aload_n 0, 1) := by decide +kernel
theorem dX6_told_34 : decode cX6_told 34 = .ok (.getfield 21, 3) := by decide +kernel
theorem dX6_told_37 : decode cX6_told 37 = .ok (.getfield 90, 3) := by decide +kernel
theorem dX6_told_40 : decode cX6_told 40 = .ok (.invokevirtual 54, 3) := by decide +kernel
theorem dX6_told_43 : decode cX6_told 43 = .ok (.ireturn, 1) := by decide +kernel
theorem dX6_told_44 : decode cX6_told 44 = .ok (.iload_n 1, 1) := by decide +kernel
theorem dX6_told_45 : decode cX6_told 45 = .ok (.bipush 10, 2) := by decide +kernel
theorem dX6_told_47 : decode cX6_told 47 = .ok (.if_icmp .lt 24, 3) := by decide +kernel
theorem dX6_told_50 : decode cX6_told 50 = .ok (.iload_n 1, 1) := by decide +kernel
theorem dX6_told_51 : decode cX6_told 51 = .ok (.bipush 15, 2) := by decide +kernel
theorem dX6_told_53 : decode cX6_told 53 = .ok (.if_icmp .ge 18, 3) := by decide +kernel
theorem dX6_told_56 : decode cX6_told 56 = .ok (.aload_n 0, 1) := by decide +kernel
theorem dX6_told_57 : decode cX6_told 57 = .ok (.getfield 21, 3) := by decide +kernel
theorem dX6_told_60 : decode cX6_told 60 = .ok (.getfield 90, 3) := by decide +kernel
theorem dX6_told_63 : decode cX6_told 63 = .ok (.iload_n 1, 1) := by decide +kernel
theorem dX6_told_64 : decode cX6_told 64 = .ok (.bipush 10, 2) := by decide +kernel
theorem dX6_told_66 : decode cX6_told 66 = .ok (.isub, 1) := by decide +kernel
theorem dX6_told_67 : decode cX6_told 67 = .ok (.invokevirtual 114, 3) := by decide +kernel
theorem dX6_told_70 : decode cX6_told 70 = .ok (.ireturn, 1) := by decide +kernel
theorem dX6_told_71 : decode cX6_told 71 = .ok (.iload_n 1, 1) := by decide +kernel
theorem dX6_told_72 : decode cX6_told 72 = .ok (.bipush 20, 2) := by decide +kernel
theorem dX6_told_74 : decode cX6_told 74 = .ok (.if_icmp .lt 24, 3) := by decide +kernel
theorem dX6_told_77 : decode cX6_told 77 = .ok (.iload_n 1, 1) := by decide +kernel
theorem dX6_told_78 : decode cX6_told 78 = .ok (.bipush 32, 2) := by decide +kernel
theorem dX6_told_80 : decode cX6_told 80 = .ok (.if_icmp .ge 18, 3) := by decide +kernel
theorem dX6_told_83 : decode cX6_told 83 = .ok (.aload_n 0, 1) := by decide +kernel
theorem dX6_told_84 : decode cX6_told 84 = .ok (.getfield 21, 3) := by decide +kernel
theorem dX6_told_87 : decode cX6_told 87 = .ok (.getfield 96, 3) := by decide +kernel
theorem dX6_told_90 : decode cX6_told 90 = .ok (.iload_n 1, 1) := by decide +kernel
theorem dX6_told_91 : decode cX6_told 91 = .ok (.bipush 20, 2) := by decide +kernel
theorem dX6_told_93 : decode cX6_told 93 = .ok (.isub, 1) := by decide +kernel
theorem dX6_told_94 : decode cX6_told 94 = .ok (.invokevirtual 114, 3) := by decide +kernel
theorem dX6_told_97 : decode cX6_told 97 = .ok (.ireturn, 1) := by decide +kernel
theorem dX6_told_98 : decode cX6_told 98 = .ok (.bipush (-2), 2) := by decide +kernel
theorem dX6_told_100 : decode cX6_told 100 = .ok (.ireturn, 1) := by decide +kernel
theorem dX6_isSign_0 : decode cX6_isSign 0 = .ok (.iload_n 0, 1) := by decide +kernel
theorem dX6_isSign_1 : decode cX6_isSign 1 = .ok (.bipush 33, 2) := by decide +kernel
theorem dX6_isSign_3 : decode cX6_isSign 3 = .ok (.if_icmp .lt 13, 3) := by decide +kernel
theorem dX6_isSign_6 : decode cX6_isSign 6 = .ok (.iload_n 0, 1) := by decide +kernel
theorem dX6_isSign_7 : decode cX6_isSign 7 = .ok (.bipush 126, 2) := by decide +kernel
theorem dX6_isSign_9 : decode cX6_isSign 9 = .ok (.if_icmp .gt 7, 3) := by decide +kernel
theorem dX6_isSign_12 : decode cX6_isSign 12 = .ok (.iconst 1, 1) := by decide +kernel
theorem dX6_isSign_13 : decode cX6_isSign 13 = .ok (.goto 4, 3) := by decide +kernel
theorem dX6_isSign_16 : decode cX6_isSign 16 = .ok (.iconst 0, 1) := by decide +kernel
theorem dX6_isSign_17 : decode cX6_isSign 17 = .ok (.ireturn, 1) := by decide +kernel
theorem dX6_isLayer_0 : decode cX6_isLayer 0 = .ok (.iload_n 0, 1) := by decide +kernel
theorem dX6_isLayer_1 : decode cX6_isLayer 1 = .ok (.ifCond .lt 12, 3) := by decide +kernel
theorem dX6_isLayer_4 : decode cX6_isLayer 4 = .ok (.iload_n 0, 1) := by decide +kernel
theorem dX6_isLayer_5 : decode cX6_isLayer 5 = .ok (.iconst 5, 1) := by decide +kernel
theorem dX6_isLayer_6 : decode cX6_isLayer 6 = .ok (.if_icmp .ge 7, 3) := by decide +kernel
theorem dX6_isLayer_9 : decode cX6_isLayer 9 = .ok (.iconst 1, 1) := by decide +kernel
theorem dX6_isLayer_10 : decode cX6_isLayer 10 = .ok (.goto 4, 3) := by decide +kernel
theorem dX6_isLayer_13 : decode cX6_isLayer 13 = .ok (.iconst 0, 1) := by decide +kernel
theorem dX6_isLayer_14 : decode cX6_isLayer 14 = .ok (.ireturn, 1) := by decide +kernel
theorem dX6_isImage_0 : decode cX6_isImage 0 = .ok (.iload_n 0, 1) := by decide +kernel
theorem dX6_isImage_1 : decode cX6_isImage 1 = .ok (.ifCond .lt 12, 3) := by decide +kernel
theorem dX6_isImage_4 : decode cX6_isImage 4 = .ok (.iload_n 0, 1) := by decide +kernel
theorem dX6_isImage_5 : decode cX6_isImage 5 = .ok (.iconst 2, 1) := by decide +kernel
theorem dX6_isImage_6 : decode cX6_isImage 6 = .ok (.if_icmp .ge 7, 3) := by decide +kernel
theorem dX6_isImage_9 : decode cX6_isImage 9 = .ok (.iconst 1, 1) := by decide +kernel
theorem dX6_isImage_10 : decode cX6_isImage 10 = .ok (.goto 4, 3) := by decide +kernel
theorem dX6_isImage_13 : decode cX6_isImage 13 = .ok (.iconst 0, 1) := by decide +kernel
theorem dX6_isImage_14 : decode cX6_isImage 14 = .ok (.ireturn, 1) := by decide +kernel
theorem dX6_imageAt_0 : decode cX6_imageAt 0 = .ok (.iload_n 1, 1) := by decide +kernel
theorem dX6_imageAt_1 : decode cX6_imageAt 1 = .ok (.ifCond .ne 10, 3) := by decide +kernel
theorem dX6_imageAt_4 : decode cX6_imageAt 4 = .ok (.aload_n 0, 1) := by decide +kernel
theorem dX6_imageAt_5 : decode cX6_imageAt 5 = .ok (.getfield 25, 3) := by decide +kernel
theorem dX6_imageAt_8 : decode cX6_imageAt 8 = .ok (.goto 7, 3) := by decide +kernel
theorem dX6_imageAt_11 : decode cX6_imageAt 11 = .ok (.aload_n 0, 1) := by decide +kernel
theorem dX6_imageAt_12 : decode cX6_imageAt 12 = .ok (.getfield 28, 3) := by decide +kernel
theorem dX6_imageAt_15 : decode cX6_imageAt 15 = .ok (.areturn, 1) := by decide +kernel
theorem dX6_isPlace_0 : decode cX6_isPlace 0 = .ok (.iload_n 1, 1) := by decide +kernel
theorem dX6_isPlace_1 : decode cX6_isPlace 1 = .ok (.ifCond .lt 21, 3) := by decide +kernel
theorem dX6_isPlace_4 : decode cX6_isPlace 4 = .ok (.iload_n 1, 1) := by decide +kernel
theorem dX6_isPlace_5 : decode cX6_isPlace 5 = .ok (.aload_n 0, 1) := by decide +kernel
theorem dX6_isPlace_6 : decode cX6_isPlace 6 = .ok (.getfield 21, 3) := by decide +kernel
theorem dX6_isPlace_9 : decode cX6_isPlace 9 = .ok (.getfield 90, 3) := by decide +kernel
theorem dX6_isPlace_12 : decode cX6_isPlace 12 = .ok (.invokevirtual 54, 3) := by decide +kernel
theorem dX6_isPlace_15 : decode cX6_isPlace 15 = .ok (.if_icmp .ge 7, 3) := by decide +kernel
theorem dX6_isPlace_18 : decode cX6_isPlace 18 = .ok (.iconst 1, 1) := by decide +kernel
theorem dX6_isPlace_19 : decode cX6_isPlace 19 = .ok (.goto 4, 3) := by decide +kernel
theorem dX6_isPlace_22 : decode cX6_isPlace 22 = .ok (.iconst 0, 1) := by decide +kernel
theorem dX6_isPlace_23 : decode cX6_isPlace 23 = .ok (.ireturn, 1) := by decide +kernel
theorem dX6_lengthOfLone_0 : decode cX6_lengthOfLone 0 = .ok (.aload_n 0, 1) := by decide +kernel
theorem dX6_lengthOfLone_1 : decode cX6_lengthOfLone 1 = .ok (.getfield 38, 3) := by decide +kernel
theorem dX6_lengthOfLone_4 : decode cX6_lengthOfLone 4 = .ok (.invokevirtual 61, 3) := by decide +kernel
theorem dX6_lengthOfLone_7 : decode cX6_lengthOfLone 7 = .ok (.aload_n 0, 1) := by decide +kernel
theorem dX6_lengthOfLone_8 : decode cX6_lengthOfLone 8 = .ok (.getfield 38, 3) := by decide +kernel
theorem dX6_lengthOfLone_11 : decode cX6_lengthOfLone 11 = .ok (.iload_n 1, 1) := by decide +kernel
theorem dX6_lengthOfLone_12 : decode cX6_lengthOfLone 12 = .ok (.invokevirtual 58, 3) := by decide +kernel
theorem dX6_lengthOfLone_15 : decode cX6_lengthOfLone 15 = .ok (.aload_n 0, 1) := by decide +kernel
theorem dX6_lengthOfLone_16 : decode cX6_lengthOfLone 16 = .ok (.getfield 34, 3) := by decide +kernel
theorem dX6_lengthOfLone_19 : decode cX6_lengthOfLone 19 = .ok (.aload_n 0, 1) := by decide +kernel
theorem dX6_lengthOfLone_20 : decode cX6_lengthOfLone 20 = .ok (.getfield 21, 3) := by decide +kernel
theorem dX6_lengthOfLone_23 : decode cX6_lengthOfLone 23 = .ok (.aload_n 0, 1) := by decide +kernel
theorem dX6_lengthOfLone_24 : decode cX6_lengthOfLone 24 = .ok (.getfield 21, 3) := by decide +kernel
theorem dX6_lengthOfLone_27 : decode cX6_lengthOfLone 27 = .ok (.getfield 90, 3) := by decide +kernel
theorem dX6_lengthOfLone_30 : decode cX6_lengthOfLone 30 = .ok (.aload_n 0, 1) := by decide +kernel
theorem dX6_lengthOfLone_31 : decode cX6_lengthOfLone 31 = .ok (.getfield 38, 3) := by decide +kernel
theorem dX6_lengthOfLone_34 : decode cX6_lengthOfLone 34 = .ok (.bipush (-6), 2) := by decide +kernel
theorem dX6_lengthOfLone_36 : decode cX6_lengthOfLone 36 = .ok (.invokevirtual 106, 3) := by decide +kernel
theorem dX6_lengthOfLone_39 : decode cX6_lengthOfLone 39 = .ok (.ireturn, 1) := by decide +kernel
theorem dX6_outcome_0 : decode cX6_outcome 0 = .ok (.aload_n 0, 1) := by decide +kernel
theorem dX6_outcome_1 : decode cX6_outcome 1 = .ok (.getfield 34, 3) := by decide +kernel
theorem dX6_outcome_4 : decode cX6_outcome 4 = .ok (.aload_n 0, 1) := by decide +kernel
theorem dX6_outcome_5 : decode cX6_outcome 5 = .ok (.getfield 21, 3) := by decide +kernel
theorem dX6_outcome_8 : decode cX6_outcome 8 = .ok (.aload_n 2, 1) := by decide +kernel
theorem dX6_outcome_9 : decode cX6_outcome 9 = .ok (.aload_n 1, 1) := by decide +kernel
theorem dX6_outcome_10 : decode cX6_outcome 10 = .ok (.iload_n 3, 1) := by decide +kernel
theorem dX6_outcome_11 : decode cX6_outcome 11 = .ok (.invokevirtual 106, 3) := by decide +kernel
theorem dX6_outcome_14 : decode cX6_outcome 14 = .ok (.istore 4, 2) := by decide +kernel
theorem dX6_outcome_16 : decode cX6_outcome 16 = .ok (.iload 4, 2) := by decide +kernel
theorem dX6_outcome_18 : decode cX6_outcome 18 = .ok (.bipush (-7), 2) := by decide +kernel
theorem dX6_outcome_20 : decode cX6_outcome 20 = .ok (.if_icmp .eq 10, 3) := by decide +kernel
theorem dX6_outcome_23 : decode cX6_outcome 23 = .ok (.iload 4, 2) := by decide +kernel
theorem dX6_outcome_25 : decode cX6_outcome 25 = .ok (.bipush (-5), 2) := by decide +kernel
theorem dX6_outcome_27 : decode cX6_outcome 27 = .ok (.if_icmp .ne 6, 3) := by decide +kernel
theorem dX6_outcome_30 : decode cX6_outcome 30 = .ok (.iload 4, 2) := by decide +kernel
theorem dX6_outcome_32 : decode cX6_outcome 32 = .ok (.ireturn, 1) := by decide +kernel
theorem dX6_outcome_33 : decode cX6_outcome 33 = .ok (.aload_n 0, 1) := by decide +kernel
theorem dX6_outcome_34 : decode cX6_outcome 34 = .ok (.getfield 34, 3) := by decide +kernel
theorem dX6_outcome_37 : decode cX6_outcome 37 = .ok (.aload_n 0, 1) := by decide +kernel
theorem dX6_outcome_38 : decode cX6_outcome 38 = .ok (.getfield 21, 3) := by decide +kernel
theorem dX6_outcome_41 : decode cX6_outcome 41 = .ok (.aload_n 0, 1) := by decide +kernel
theorem dX6_outcome_42 : decode cX6_outcome 42 = .ok (.getfield 21, 3) := by decide +kernel
theorem dX6_outcome_45 : decode cX6_outcome 45 = .ok (.getfield 90, 3) := by decide +kernel
theorem dX6_outcome_48 : decode cX6_outcome 48 = .ok (.invokevirtual 126, 3) := by decide +kernel
theorem dX6_outcome_51 : decode cX6_outcome 51 = .ok (.bipush (-6), 2) := by decide +kernel
theorem dX6_outcome_53 : decode cX6_outcome 53 = .ok (.if_icmp .eq 5, 3) := by decide +kernel
theorem dX6_outcome_56 : decode cX6_outcome 56 = .ok (.iconst 2, 1) := by decide +kernel
theorem dX6_outcome_57 : decode cX6_outcome 57 = .ok (.ireturn, 1) := by decide +kernel
theorem dX6_outcome_58 : decode cX6_outcome 58 = .ok (.aload_n 0, 1) := by decide +kernel
theorem dX6_outcome_59 : decode cX6_outcome 59 = .ok (.getfield 34, 3) := by decide +kernel
theorem dX6_outcome_62 : decode cX6_outcome 62 = .ok (.invokevirtual 110, 3) := by decide +kernel
theorem dX6_outcome_65 : decode cX6_outcome 65 = .ok (.aload_n 1, 1) := by decide +kernel
theorem dX6_outcome_66 : decode cX6_outcome 66 = .ok (.invokevirtual 180, 3) := by decide +kernel
theorem dX6_outcome_69 : decode cX6_outcome 69 = .ok (.ifCond .eq 7, 3) := by decide +kernel
theorem dX6_outcome_72 : decode cX6_outcome 72 = .ok (.iconst 0, 1) := by decide +kernel
theorem dX6_outcome_73 : decode cX6_outcome 73 = .ok (.goto 4, 3) := by decide +kernel
theorem dX6_outcome_76 : decode cX6_outcome 76 = .ok (.iconst 1, 1) := by decide +kernel
theorem dX6_outcome_77 : decode cX6_outcome 77 = .ok (.ireturn, 1) := by decide +kernel
theorem dX6_padIsSpillRow_0 : decode cX6_padIsSpillRow 0 = .ok (.aload_n 0, 1) := by decide +kernel
theorem dX6_padIsSpillRow_1 : decode cX6_padIsSpillRow 1 = .ok (.getfield 14, 3) := by decide +kernel
theorem dX6_padIsSpillRow_4 : decode cX6_padIsSpillRow 4 = .ok (.invokevirtual 54, 3) := by decide +kernel
theorem dX6_padIsSpillRow_7 : decode cX6_padIsSpillRow 7 = .ok (.iconst 1, 1) := by decide +kernel
theorem dX6_padIsSpillRow_8 : decode cX6_padIsSpillRow 8 = .ok (.if_icmp .lt 14, 3) := by decide +kernel
theorem dX6_padIsSpillRow_11 : decode cX6_padIsSpillRow 11 = .ok (.aload_n 0, 1) := by decide +kernel
theorem dX6_padIsSpillRow_12 : decode cX6_padIsSpillRow 12 = .ok (.getfield 14, 3) := by decide +kernel
theorem dX6_padIsSpillRow_15 : decode cX6_padIsSpillRow 15 = .ok (.invokevirtual 54, 3) := by decide +kernel
theorem dX6_padIsSpillRow_18 : decode cX6_padIsSpillRow 18 = .ok (.iconst 5, 1) := by decide +kernel
theorem dX6_padIsSpillRow_19 : decode cX6_padIsSpillRow 19 = .ok (.if_icmp .le 5, 3) := by decide +kernel
theorem dX6_padIsSpillRow_22 : decode cX6_padIsSpillRow 22 = .ok (.iconst 0, 1) := by decide +kernel
theorem dX6_padIsSpillRow_23 : decode cX6_padIsSpillRow 23 = .ok (.ireturn, 1) := by decide +kernel
theorem dX6_padIsSpillRow_24 : decode cX6_padIsSpillRow 24 = .ok (.iconst 1, 1) := by decide +kernel
theorem dX6_padIsSpillRow_25 : decode cX6_padIsSpillRow 25 = .ok (.istore_n 1, 1) := by decide +kernel
theorem dX6_padIsSpillRow_26 : decode cX6_padIsSpillRow 26 = .ok (.iload_n 1, 1) := by decide +kernel
theorem dX6_padIsSpillRow_27 : decode cX6_padIsSpillRow 27 = .ok (.aload_n 0, 1) := by decide +kernel
theorem dX6_padIsSpillRow_28 : decode cX6_padIsSpillRow 28 = .ok (.getfield 14, 3) := by decide +kernel
theorem dX6_padIsSpillRow_31 : decode cX6_padIsSpillRow 31 = .ok (.invokevirtual 54, 3) := by decide +kernel
theorem dX6_padIsSpillRow_34 : decode cX6_padIsSpillRow 34 = .ok (.if_icmp .ge 30, 3) := by decide +kernel
theorem dX6_padIsSpillRow_37 : decode cX6_padIsSpillRow 37 = .ok (.aload_n 0, 1) := by decide +kernel
theorem dX6_padIsSpillRow_38 : decode cX6_padIsSpillRow 38 = .ok (.getfield 14, 3) := by decide +kernel
theorem dX6_padIsSpillRow_41 : decode cX6_padIsSpillRow 41 = .ok (.aload_n 0, 1) := by decide +kernel
theorem dX6_padIsSpillRow_42 : decode cX6_padIsSpillRow 42 = .ok (.getfield 14, 3) := by decide +kernel
theorem dX6_padIsSpillRow_45 : decode cX6_padIsSpillRow 45 = .ok (.iload_n 1, 1) := by decide +kernel
theorem dX6_padIsSpillRow_46 : decode cX6_padIsSpillRow 46 = .ok (.invokevirtual 114, 3) := by decide +kernel
theorem dX6_padIsSpillRow_49 : decode cX6_padIsSpillRow 49 = .ok (.iload_n 1, 1) := by decide +kernel
theorem dX6_padIsSpillRow_50 : decode cX6_padIsSpillRow 50 = .ok (.invokevirtual 183, 3) := by decide +kernel
theorem dX6_padIsSpillRow_53 : decode cX6_padIsSpillRow 53 = .ok (.ifCond .eq 5, 3) := by decide +kernel
theorem dX6_padIsSpillRow_56 : decode cX6_padIsSpillRow 56 = .ok (.iconst 0, 1) := by decide +kernel
theorem dX6_padIsSpillRow_57 : decode cX6_padIsSpillRow 57 = .ok (.ireturn, 1) := by decide +kernel
theorem dX6_padIsSpillRow_58 : decode cX6_padIsSpillRow 58 = .ok (.iinc 1 1, 3) := by decide +kernel
theorem dX6_padIsSpillRow_61 : decode cX6_padIsSpillRow 61 = .ok (.goto (-35), 3) := by decide +kernel
theorem dX6_padIsSpillRow_64 : decode cX6_padIsSpillRow 64 = .ok (.iconst 1, 1) := by decide +kernel
theorem dX6_padIsSpillRow_65 : decode cX6_padIsSpillRow 65 = .ok (.ireturn, 1) := by decide +kernel
theorem dX6_findShortestSpill_0 : decode cX6_findShortestSpill 0 = .ok (.iconst 1, 1) := by decide +kernel
theorem dX6_findShortestSpill_1 : decode cX6_findShortestSpill 1 = .ok (.istore_n 2, 1) := by decide +kernel
theorem dX6_findShortestSpill_2 : decode cX6_findShortestSpill 2 = .ok (.iload_n 2, 1) := by decide +kernel
theorem dX6_findShortestSpill_3 : decode cX6_findShortestSpill 3 = .ok (.iconst 4, 1) := by decide +kernel
theorem dX6_findShortestSpill_4 : decode cX6_findShortestSpill 4 = .ok (.if_icmp .gt 90, 3) := by decide +kernel
theorem dX6_findShortestSpill_7 : decode cX6_findShortestSpill 7 = .ok (.aload_n 0, 1) := by decide +kernel
theorem dX6_findShortestSpill_8 : decode cX6_findShortestSpill 8 = .ok (.getfield 44, 3) := by decide +kernel
theorem dX6_findShortestSpill_11 : decode cX6_findShortestSpill 11 = .ok (.iload_n 2, 1) := by decide +kernel
theorem dX6_findShortestSpill_12 : decode cX6_findShortestSpill 12 = .ok (.invokevirtual 147, 3) := by decide +kernel
theorem dX6_findShortestSpill_15 : decode cX6_findShortestSpill 15 = .ok (.istore_n 3, 1) := by decide +kernel
theorem dX6_findShortestSpill_16 : decode cX6_findShortestSpill 16 = .ok (.iconst 0, 1) := by decide +kernel
theorem dX6_findShortestSpill_17 : decode cX6_findShortestSpill 17 = .ok (.istore 4, 2) := by decide +kernel
theorem dX6_findShortestSpill_19 : decode cX6_findShortestSpill 19 = .ok (.iload_n 3, 1) := by decide +kernel
theorem dX6_findShortestSpill_20 : decode cX6_findShortestSpill 20 = .ok (.ifCond .eq 68, 3) := by decide +kernel
theorem dX6_findShortestSpill_23 : decode cX6_findShortestSpill 23 = .ok (.iload 4, 2) := by decide +kernel
theorem dX6_findShortestSpill_25 : decode cX6_findShortestSpill 25 = .ok (.sipush 625, 3) := by decide +kernel
theorem dX6_findShortestSpill_28 : decode cX6_findShortestSpill 28 = .ok (.if_icmp .ge 60, 3) := by decide +kernel
theorem dX6_findShortestSpill_31 : decode cX6_findShortestSpill 31 = .ok (.aload_n 0, 1) := by decide +kernel
theorem dX6_findShortestSpill_32 : decode cX6_findShortestSpill 32 = .ok (.invokevirtual 187, 3) := by decide +kernel
theorem dX6_findShortestSpill_35 : decode cX6_findShortestSpill 35 = .ok (.aload_n 0, 1) := by decide +kernel
theorem dX6_findShortestSpill_36 : decode cX6_findShortestSpill 36 = .ok (.aload_n 0, 1) := by decide +kernel
theorem dX6_findShortestSpill_37 : decode cX6_findShortestSpill 37 = .ok (.getfield 38, 3) := by decide +kernel
theorem dX6_findShortestSpill_40 : decode cX6_findShortestSpill 40 = .ok (.aload_n 0, 1) := by decide +kernel
theorem dX6_findShortestSpill_41 : decode cX6_findShortestSpill 41 = .ok (.getfield 21, 3) := by decide +kernel
theorem dX6_findShortestSpill_44 : decode cX6_findShortestSpill 44 = .ok (.getfield 90, 3) := by decide +kernel
theorem dX6_findShortestSpill_47 : decode cX6_findShortestSpill 47 = .ok (.iload_n 1, 1) := by decide +kernel
theorem dX6_findShortestSpill_48 : decode cX6_findShortestSpill 48 = .ok (.invokevirtual 136, 3) := by decide +kernel
theorem dX6_findShortestSpill_51 : decode cX6_findShortestSpill 51 = .ok (.istore 5, 2) := by decide +kernel
theorem dX6_findShortestSpill_53 : decode cX6_findShortestSpill 53 = .ok (.iload 5, 2) := by decide +kernel
theorem dX6_findShortestSpill_55 : decode cX6_findShortestSpill 55 = .ok (.iconst 1, 1) := by decide +kernel
theorem dX6_findShortestSpill_56 : decode cX6_findShortestSpill 56 = .ok (.if_icmp .eq 9, 3) := by decide +kernel
theorem dX6_findShortestSpill_59 : decode cX6_findShortestSpill 59 = .ok (.iload 5, 2) := by decide +kernel
theorem dX6_findShortestSpill_61 : decode cX6_findShortestSpill 61 = .ok (.iconst 2, 1) := by decide +kernel
theorem dX6_findShortestSpill_62 : decode cX6_findShortestSpill 62 = .ok (.if_icmp .ne 5, 3) := by decide +kernel
theorem dX6_findShortestSpill_65 : decode cX6_findShortestSpill 65 = .ok (.iconst 1, 1) := by decide +kernel
theorem dX6_findShortestSpill_66 : decode cX6_findShortestSpill 66 = .ok (.ireturn, 1) := by decide +kernel
theorem dX6_findShortestSpill_67 : decode cX6_findShortestSpill 67 = .ok (.aload_n 0, 1) := by decide +kernel
theorem dX6_findShortestSpill_68 : decode cX6_findShortestSpill 68 = .ok (.getfield 44, 3) := by decide +kernel
theorem dX6_findShortestSpill_71 : decode cX6_findShortestSpill 71 = .ok (.aload_n 0, 1) := by decide +kernel
theorem dX6_findShortestSpill_72 : decode cX6_findShortestSpill 72 = .ok (.getfield 14, 3) := by decide +kernel
theorem dX6_findShortestSpill_75 : decode cX6_findShortestSpill 75 = .ok (.invokevirtual 54, 3) := by decide +kernel
theorem dX6_findShortestSpill_78 : decode cX6_findShortestSpill 78 = .ok (.invokestatic 157, 3) := by decide +kernel
theorem dX6_findShortestSpill_81 : decode cX6_findShortestSpill 81 = .ok (.istore_n 3, 1) := by decide +kernel
theorem dX6_findShortestSpill_82 : decode cX6_findShortestSpill 82 = .ok (.iinc 4 1, 3) := by decide +kernel
theorem dX6_findShortestSpill_85 : decode cX6_findShortestSpill 85 = .ok (.goto (-66), 3) := by decide +kernel
theorem dX6_findShortestSpill_88 : decode cX6_findShortestSpill 88 = .ok (.iinc 2 1, 3) := by decide +kernel
theorem dX6_findShortestSpill_91 : decode cX6_findShortestSpill 91 = .ok (.goto (-89), 3) := by decide +kernel
theorem dX6_findShortestSpill_94 : decode cX6_findShortestSpill 94 = .ok (.iconst 0, 1) := by decide +kernel
theorem dX6_findShortestSpill_95 : decode cX6_findShortestSpill 95 = .ok (.ireturn, 1) := by decide +kernel
theorem dX6_spellTrial_0 : decode cX6_spellTrial 0 = .ok (.aload_n 0, 1) := by decide +kernel
theorem dX6_spellTrial_1 : decode cX6_spellTrial 1 = .ok (.getfield 38, 3) := by decide +kernel
theorem dX6_spellTrial_4 : decode cX6_spellTrial 4 = .ok (.invokevirtual 61, 3) := by decide +kernel
theorem dX6_spellTrial_7 : decode cX6_spellTrial 7 = .ok (.iconst 0, 1) := by decide +kernel
theorem dX6_spellTrial_8 : decode cX6_spellTrial 8 = .ok (.istore_n 1, 1) := by decide +kernel
theorem dX6_spellTrial_9 : decode cX6_spellTrial 9 = .ok (.iload_n 1, 1) := by decide +kernel
theorem dX6_spellTrial_10 : decode cX6_spellTrial 10 = .ok (.aload_n 0, 1) := by decide +kernel
theorem dX6_spellTrial_11 : decode cX6_spellTrial 11 = .ok (.getfield 44, 3) := by decide +kernel
theorem dX6_spellTrial_14 : decode cX6_spellTrial 14 = .ok (.invokevirtual 54, 3) := by decide +kernel
theorem dX6_spellTrial_17 : decode cX6_spellTrial 17 = .ok (.if_icmp .ge 31, 3) := by decide +kernel
theorem dX6_spellTrial_20 : decode cX6_spellTrial 20 = .ok (.aload_n 0, 1) := by decide +kernel
theorem dX6_spellTrial_21 : decode cX6_spellTrial 21 = .ok (.getfield 38, 3) := by decide +kernel
theorem dX6_spellTrial_24 : decode cX6_spellTrial 24 = .ok (.aload_n 0, 1) := by decide +kernel
theorem dX6_spellTrial_25 : decode cX6_spellTrial 25 = .ok (.getfield 14, 3) := by decide +kernel
theorem dX6_spellTrial_28 : decode cX6_spellTrial 28 = .ok (.aload_n 0, 1) := by decide +kernel
theorem dX6_spellTrial_29 : decode cX6_spellTrial 29 = .ok (.getfield 44, 3) := by decide +kernel
theorem dX6_spellTrial_32 : decode cX6_spellTrial 32 = .ok (.iload_n 1, 1) := by decide +kernel
theorem dX6_spellTrial_33 : decode cX6_spellTrial 33 = .ok (.invokevirtual 114, 3) := by decide +kernel
theorem dX6_spellTrial_36 : decode cX6_spellTrial 36 = .ok (.invokevirtual 114, 3) := by decide +kernel
theorem dX6_spellTrial_39 : decode cX6_spellTrial 39 = .ok (.invokevirtual 58, 3) := by decide +kernel
theorem dX6_spellTrial_42 : decode cX6_spellTrial 42 = .ok (.iinc 1 1, 3) := by decide +kernel
theorem dX6_spellTrial_45 : decode cX6_spellTrial 45 = .ok (.goto (-36), 3) := by decide +kernel
theorem dX6_spellTrial_48 : decode cX6_spellTrial 48 = .ok (.return_, 1) := by decide +kernel
theorem dX6_readsPadWholly_0 : decode cX6_readsPadWholly 0 = .ok (.iconst 0, 1) := by decide +kernel
theorem dX6_readsPadWholly_1 : decode cX6_readsPadWholly 1 = .ok (.istore_n 2, 1) := by decide +kernel
theorem dX6_readsPadWholly_2 : decode cX6_readsPadWholly 2 = .ok (.iload_n 2, 1) := by decide +kernel
theorem dX6_readsPadWholly_3 : decode cX6_readsPadWholly 3 = .ok (.aload_n 1, 1) := by decide +kernel
theorem dX6_readsPadWholly_4 : decode cX6_readsPadWholly 4 = .ok (.invokevirtual 54, 3) := by decide +kernel
theorem dX6_readsPadWholly_7 : decode cX6_readsPadWholly 7 = .ok (.if_icmp .ge 29, 3) := by decide +kernel
theorem dX6_readsPadWholly_10 : decode cX6_readsPadWholly 10 = .ok (.aload_n 0, 1) := by decide +kernel
theorem dX6_readsPadWholly_11 : decode cX6_readsPadWholly 11 = .ok (.getfield 21, 3) := by decide +kernel
theorem dX6_readsPadWholly_14 : decode cX6_readsPadWholly 14 = .ok (.aload_n 1, 1) := by decide +kernel
theorem dX6_readsPadWholly_15 : decode cX6_readsPadWholly 15 = .ok (.iload_n 2, 1) := by decide +kernel
theorem dX6_readsPadWholly_16 : decode cX6_readsPadWholly 16 = .ok (.invokevirtual 114, 3) := by decide +kernel
theorem dX6_readsPadWholly_19 : decode cX6_readsPadWholly 19 = .ok (.invokevirtual 73, 3) := by decide +kernel
theorem dX6_readsPadWholly_22 : decode cX6_readsPadWholly 22 = .ok (.invokevirtual 190, 3) := by decide +kernel
theorem dX6_readsPadWholly_25 : decode cX6_readsPadWholly 25 = .ok (.ifCond .eq 5, 3) := by decide +kernel
theorem dX6_readsPadWholly_28 : decode cX6_readsPadWholly 28 = .ok (.iconst 0, 1) := by decide +kernel
theorem dX6_readsPadWholly_29 : decode cX6_readsPadWholly 29 = .ok (.ireturn, 1) := by decide +kernel
theorem dX6_readsPadWholly_30 : decode cX6_readsPadWholly 30 = .ok (.iinc 2 1, 3) := by decide +kernel
theorem dX6_readsPadWholly_33 : decode cX6_readsPadWholly 33 = .ok (.goto (-31), 3) := by decide +kernel
theorem dX6_readsPadWholly_36 : decode cX6_readsPadWholly 36 = .ok (.aload_n 0, 1) := by decide +kernel
theorem dX6_readsPadWholly_37 : decode cX6_readsPadWholly 37 = .ok (.getfield 34, 3) := by decide +kernel
theorem dX6_readsPadWholly_40 : decode cX6_readsPadWholly 40 = .ok (.aload_n 0, 1) := by decide +kernel
theorem dX6_readsPadWholly_41 : decode cX6_readsPadWholly 41 = .ok (.getfield 14, 3) := by decide +kernel
theorem dX6_readsPadWholly_44 : decode cX6_readsPadWholly 44 = .ok (.invokevirtual 123, 3) := by decide +kernel
theorem dX6_readsPadWholly_47 : decode cX6_readsPadWholly 47 = .ok (.aload_n 0, 1) := by decide +kernel
theorem dX6_readsPadWholly_48 : decode cX6_readsPadWholly 48 = .ok (.getfield 34, 3) := by decide +kernel
theorem dX6_readsPadWholly_51 : decode cX6_readsPadWholly 51 = .ok (.aload_n 0, 1) := by decide +kernel
theorem dX6_readsPadWholly_52 : decode cX6_readsPadWholly 52 = .ok (.getfield 21, 3) := by decide +kernel
theorem dX6_readsPadWholly_55 : decode cX6_readsPadWholly 55 = .ok (.aload_n 1, 1) := by decide +kernel
theorem dX6_readsPadWholly_56 : decode cX6_readsPadWholly 56 = .ok (.invokevirtual 126, 3) := by decide +kernel
theorem dX6_readsPadWholly_59 : decode cX6_readsPadWholly 59 = .ok (.bipush (-6), 2) := by decide +kernel
theorem dX6_readsPadWholly_61 : decode cX6_readsPadWholly 61 = .ok (.if_icmp .ne 7, 3) := by decide +kernel
theorem dX6_readsPadWholly_64 : decode cX6_readsPadWholly 64 = .ok (.iconst 1, 1) := by decide +kernel
theorem dX6_readsPadWholly_65 : decode cX6_readsPadWholly 65 = .ok (.goto 4, 3) := by decide +kernel
theorem dX6_readsPadWholly_68 : decode cX6_readsPadWholly 68 = .ok (.iconst 0, 1) := by decide +kernel
theorem dX6_readsPadWholly_69 : decode cX6_readsPadWholly 69 = .ok (.ireturn, 1) := by decide +kernel
theorem dX6_asDigits_0 : decode cX6_asDigits 0 = .ok (.iconst 1, 1) := by decide +kernel
theorem dX6_asDigits_1 : decode cX6_asDigits 1 = .ok (.istore_n 1, 1) := by decide +kernel
theorem dX6_asDigits_2 : decode cX6_asDigits 2 = .ok (.iconst 0, 1) := by decide +kernel
theorem dX6_asDigits_3 : decode cX6_asDigits 3 = .ok (.istore_n 2, 1) := by decide +kernel
theorem dX6_asDigits_4 : decode cX6_asDigits 4 = .ok (.iload_n 2, 1) := by decide +kernel
theorem dX6_asDigits_5 : decode cX6_asDigits 5 = .ok (.aload_n 0, 1) := by decide +kernel
theorem dX6_asDigits_6 : decode cX6_asDigits 6 = .ok (.invokevirtual 54, 3) := by decide +kernel
theorem dX6_asDigits_9 : decode cX6_asDigits 9 = .ok (.if_icmp .ge 20, 3) := by decide +kernel
theorem dX6_asDigits_12 : decode cX6_asDigits 12 = .ok (.iload_n 1, 1) := by decide +kernel
theorem dX6_asDigits_13 : decode cX6_asDigits 13 = .ok (.bipush 10, 2) := by decide +kernel
theorem dX6_asDigits_15 : decode cX6_asDigits 15 = .ok (.imul, 1) := by decide +kernel
theorem dX6_asDigits_16 : decode cX6_asDigits 16 = .ok (.aload_n 0, 1) := by decide +kernel
theorem dX6_asDigits_17 : decode cX6_asDigits 17 = .ok (.iload_n 2, 1) := by decide +kernel
theorem dX6_asDigits_18 : decode cX6_asDigits 18 = .ok (.invokevirtual 114, 3) := by decide +kernel
theorem dX6_asDigits_21 : decode cX6_asDigits 21 = .ok (.iadd, 1) := by decide +kernel
theorem dX6_asDigits_22 : decode cX6_asDigits 22 = .ok (.istore_n 1, 1) := by decide +kernel
theorem dX6_asDigits_23 : decode cX6_asDigits 23 = .ok (.iinc 2 1, 3) := by decide +kernel
theorem dX6_asDigits_26 : decode cX6_asDigits 26 = .ok (.goto (-22), 3) := by decide +kernel
theorem dX6_asDigits_29 : decode cX6_asDigits 29 = .ok (.iload_n 1, 1) := by decide +kernel
theorem dX6_asDigits_30 : decode cX6_asDigits 30 = .ok (.ireturn, 1) := by decide +kernel
theorem dX6_findShortestOrder_0 : decode cX6_findShortestOrder 0 = .ok (.bipush (-6), 2) := by decide +kernel
theorem dX6_findShortestOrder_2 : decode cX6_findShortestOrder 2 = .ok (.istore_n 1, 1) := by decide +kernel
theorem dX6_findShortestOrder_3 : decode cX6_findShortestOrder 3 = .ok (.aload_n 0, 1) := by decide +kernel
theorem dX6_findShortestOrder_4 : decode cX6_findShortestOrder 4 = .ok (.getfield 47, 3) := by decide +kernel
theorem dX6_findShortestOrder_7 : decode cX6_findShortestOrder 7 = .ok (.invokevirtual 61, 3) := by decide +kernel
theorem dX6_findShortestOrder_10 : decode cX6_findShortestOrder 10 = .ok (.aload_n 0, 1) := by decide +kernel
theorem dX6_findShortestOrder_11 : decode cX6_findShortestOrder 11 = .ok (.getfield 44, 3) := by decide +kernel
theorem dX6_findShortestOrder_14 : decode cX6_findShortestOrder 14 = .ok (.invokevirtual 61, 3) := by decide +kernel
theorem dX6_findShortestOrder_17 : decode cX6_findShortestOrder 17 = .ok (.iconst 0, 1) := by decide +kernel
theorem dX6_findShortestOrder_18 : decode cX6_findShortestOrder 18 = .ok (.istore_n 2, 1) := by decide +kernel
theorem dX6_findShortestOrder_19 : decode cX6_findShortestOrder 19 = .ok (.iload_n 2, 1) := by decide +kernel
theorem dX6_findShortestOrder_20 : decode cX6_findShortestOrder 20 = .ok (.aload_n 0, 1) := by decide +kernel
theorem dX6_findShortestOrder_21 : decode cX6_findShortestOrder 21 = .ok (.getfield 21, 3) := by decide +kernel
theorem dX6_findShortestOrder_24 : decode cX6_findShortestOrder 24 = .ok (.getfield 90, 3) := by decide +kernel
theorem dX6_findShortestOrder_27 : decode cX6_findShortestOrder 27 = .ok (.invokevirtual 54, 3) := by decide +kernel
theorem dX6_findShortestOrder_30 : decode cX6_findShortestOrder 30 = .ok (.if_icmp .ge 17, 3) := by decide +kernel
theorem dX6_findShortestOrder_33 : decode cX6_findShortestOrder 33 = .ok (.aload_n 0, 1) := by decide +kernel
theorem dX6_findShortestOrder_34 : decode cX6_findShortestOrder 34 = .ok (.getfield 44, 3) := by decide +kernel
theorem dX6_findShortestOrder_37 : decode cX6_findShortestOrder 37 = .ok (.iload_n 2, 1) := by decide +kernel
theorem dX6_findShortestOrder_38 : decode cX6_findShortestOrder 38 = .ok (.invokevirtual 58, 3) := by decide +kernel
theorem dX6_findShortestOrder_41 : decode cX6_findShortestOrder 41 = .ok (.iinc 2 1, 3) := by decide +kernel
theorem dX6_findShortestOrder_44 : decode cX6_findShortestOrder 44 = .ok (.goto (-25), 3) := by decide +kernel
theorem dX6_findShortestOrder_47 : decode cX6_findShortestOrder 47 = .ok (.aload_n 0, 1) := by decide +kernel
theorem dX6_findShortestOrder_48 : decode cX6_findShortestOrder 48 = .ok (.getfield 44, 3) := by decide +kernel
theorem dX6_findShortestOrder_51 : decode cX6_findShortestOrder 51 = .ok (.invokevirtual 54, 3) := by decide +kernel
theorem dX6_findShortestOrder_54 : decode cX6_findShortestOrder 54 = .ok (.ifCond .le 7, 3) := by decide +kernel
theorem dX6_findShortestOrder_57 : decode cX6_findShortestOrder 57 = .ok (.iconst 1, 1) := by decide +kernel
theorem dX6_findShortestOrder_58 : decode cX6_findShortestOrder 58 = .ok (.goto 4, 3) := by decide +kernel
theorem dX6_findShortestOrder_61 : decode cX6_findShortestOrder 61 = .ok (.iconst 0, 1) := by decide +kernel
theorem dX6_findShortestOrder_62 : decode cX6_findShortestOrder 62 = .ok (.istore_n 2, 1) := by decide +kernel
theorem dX6_findShortestOrder_63 : decode cX6_findShortestOrder 63 = .ok (.iconst 0, 1) := by decide +kernel
theorem dX6_findShortestOrder_64 : decode cX6_findShortestOrder 64 = .ok (.istore_n 3, 1) := by decide +kernel
theorem dX6_findShortestOrder_65 : decode cX6_findShortestOrder 65 = .ok (.iload_n 2, 1) := by decide +kernel
theorem dX6_findShortestOrder_66 : decode cX6_findShortestOrder 66 = .ok (.ifCond .eq 64, 3) := by decide +kernel
theorem dX6_findShortestOrder_69 : decode cX6_findShortestOrder 69 = .ok (.iload_n 3, 1) := by decide +kernel
theorem dX6_findShortestOrder_70 : decode cX6_findShortestOrder 70 = .ok (.bipush 120, 2) := by decide +kernel
theorem dX6_findShortestOrder_72 : decode cX6_findShortestOrder 72 = .ok (.if_icmp .ge 58, 3) := by decide +kernel
theorem dX6_findShortestOrder_75 : decode cX6_findShortestOrder 75 = .ok (.aload_n 0, 1) := by decide +kernel
theorem dX6_findShortestOrder_76 : decode cX6_findShortestOrder 76 = .ok (.aload_n 0, 1) := by decide +kernel
theorem dX6_findShortestOrder_77 : decode cX6_findShortestOrder 77 = .ok (.getfield 44, 3) := by decide +kernel
theorem dX6_findShortestOrder_80 : decode cX6_findShortestOrder 80 = .ok (.invokevirtual 193, 3) := by decide +kernel
theorem dX6_findShortestOrder_83 : decode cX6_findShortestOrder 83 = .ok (.istore 4, 2) := by decide +kernel
theorem dX6_findShortestOrder_85 : decode cX6_findShortestOrder 85 = .ok (.iload 4, 2) := by decide +kernel
theorem dX6_findShortestOrder_87 : decode cX6_findShortestOrder 87 = .ok (.ifCond .lt 29, 3) := by decide +kernel
theorem dX6_findShortestOrder_90 : decode cX6_findShortestOrder 90 = .ok (.iload_n 1, 1) := by decide +kernel
theorem dX6_findShortestOrder_91 : decode cX6_findShortestOrder 91 = .ok (.bipush (-6), 2) := by decide +kernel
theorem dX6_findShortestOrder_93 : decode cX6_findShortestOrder 93 = .ok (.if_icmp .eq 9, 3) := by decide +kernel
theorem dX6_findShortestOrder_96 : decode cX6_findShortestOrder 96 = .ok (.iload 4, 2) := by decide +kernel
theorem dX6_findShortestOrder_98 : decode cX6_findShortestOrder 98 = .ok (.iload_n 1, 1) := by decide +kernel
theorem dX6_findShortestOrder_99 : decode cX6_findShortestOrder 99 = .ok (.if_icmp .ge 17, 3) := by decide +kernel
theorem dX6_findShortestOrder_102 : decode cX6_findShortestOrder 102 = .ok (.iload 4, 2) := by decide +kernel
theorem dX6_findShortestOrder_104 : decode cX6_findShortestOrder 104 = .ok (.istore_n 1, 1) := by decide +kernel
theorem dX6_findShortestOrder_105 : decode cX6_findShortestOrder 105 = .ok (.aload_n 0, 1) := by decide +kernel
theorem dX6_findShortestOrder_106 : decode cX6_findShortestOrder 106 = .ok (.getfield 47, 3) := by decide +kernel
theorem dX6_findShortestOrder_109 : decode cX6_findShortestOrder 109 = .ok (.aload_n 0, 1) := by decide +kernel
theorem dX6_findShortestOrder_110 : decode cX6_findShortestOrder 110 = .ok (.getfield 44, 3) := by decide +kernel
theorem dX6_findShortestOrder_113 : decode cX6_findShortestOrder 113 = .ok (.invokevirtual 99, 3) := by decide +kernel
theorem dX6_findShortestOrder_116 : decode cX6_findShortestOrder 116 = .ok (.aload_n 0, 1) := by decide +kernel
theorem dX6_findShortestOrder_117 : decode cX6_findShortestOrder 117 = .ok (.getfield 44, 3) := by decide +kernel
theorem dX6_findShortestOrder_120 : decode cX6_findShortestOrder 120 = .ok (.invokestatic 196, 3) := by decide +kernel
theorem dX6_findShortestOrder_123 : decode cX6_findShortestOrder 123 = .ok (.istore_n 2, 1) := by decide +kernel
theorem dX6_findShortestOrder_124 : decode cX6_findShortestOrder 124 = .ok (.iinc 3 1, 3) := by decide +kernel
theorem dX6_findShortestOrder_127 : decode cX6_findShortestOrder 127 = .ok (.goto (-62), 3) := by decide +kernel
theorem dX6_findShortestOrder_130 : decode cX6_findShortestOrder 130 = .ok (.iload_n 1, 1) := by decide +kernel
theorem dX6_findShortestOrder_131 : decode cX6_findShortestOrder 131 = .ok (.ireturn, 1) := by decide +kernel
theorem dX6_lengthInOrder_0 : decode cX6_lengthInOrder 0 = .ok (.aload_n 0, 1) := by decide +kernel
theorem dX6_lengthInOrder_1 : decode cX6_lengthInOrder 1 = .ok (.getfield 41, 3) := by decide +kernel
theorem dX6_lengthInOrder_4 : decode cX6_lengthInOrder 4 = .ok (.invokevirtual 61, 3) := by decide +kernel
theorem dX6_lengthInOrder_7 : decode cX6_lengthInOrder 7 = .ok (.iconst 0, 1) := by decide +kernel
theorem dX6_lengthInOrder_8 : decode cX6_lengthInOrder 8 = .ok (.istore_n 2, 1) := by decide +kernel
theorem dX6_lengthInOrder_9 : decode cX6_lengthInOrder 9 = .ok (.iload_n 2, 1) := by decide +kernel
theorem dX6_lengthInOrder_10 : decode cX6_lengthInOrder 10 = .ok (.aload_n 1, 1) := by decide +kernel
theorem dX6_lengthInOrder_11 : decode cX6_lengthInOrder 11 = .ok (.invokevirtual 54, 3) := by decide +kernel
theorem dX6_lengthInOrder_14 : decode cX6_lengthInOrder 14 = .ok (.if_icmp .ge 31, 3) := by decide +kernel
theorem dX6_lengthInOrder_17 : decode cX6_lengthInOrder 17 = .ok (.aload_n 0, 1) := by decide +kernel
theorem dX6_lengthInOrder_18 : decode cX6_lengthInOrder 18 = .ok (.getfield 41, 3) := by decide +kernel
theorem dX6_lengthInOrder_21 : decode cX6_lengthInOrder 21 = .ok (.aload_n 0, 1) := by decide +kernel
theorem dX6_lengthInOrder_22 : decode cX6_lengthInOrder 22 = .ok (.getfield 21, 3) := by decide +kernel
theorem dX6_lengthInOrder_25 : decode cX6_lengthInOrder 25 = .ok (.getfield 90, 3) := by decide +kernel
theorem dX6_lengthInOrder_28 : decode cX6_lengthInOrder 28 = .ok (.aload_n 1, 1) := by decide +kernel
theorem dX6_lengthInOrder_29 : decode cX6_lengthInOrder 29 = .ok (.iload_n 2, 1) := by decide +kernel
theorem dX6_lengthInOrder_30 : decode cX6_lengthInOrder 30 = .ok (.invokevirtual 114, 3) := by decide +kernel
theorem dX6_lengthInOrder_33 : decode cX6_lengthInOrder 33 = .ok (.invokevirtual 114, 3) := by decide +kernel
theorem dX6_lengthInOrder_36 : decode cX6_lengthInOrder 36 = .ok (.invokevirtual 58, 3) := by decide +kernel
theorem dX6_lengthInOrder_39 : decode cX6_lengthInOrder 39 = .ok (.iinc 2 1, 3) := by decide +kernel
theorem dX6_lengthInOrder_42 : decode cX6_lengthInOrder 42 = .ok (.goto (-33), 3) := by decide +kernel
theorem dX6_lengthInOrder_45 : decode cX6_lengthInOrder 45 = .ok (.aload_n 0, 1) := by decide +kernel
theorem dX6_lengthInOrder_46 : decode cX6_lengthInOrder 46 = .ok (.getfield 34, 3) := by decide +kernel
theorem dX6_lengthInOrder_49 : decode cX6_lengthInOrder 49 = .ok (.aload_n 0, 1) := by decide +kernel
theorem dX6_lengthInOrder_50 : decode cX6_lengthInOrder 50 = .ok (.getfield 21, 3) := by decide +kernel
theorem dX6_lengthInOrder_53 : decode cX6_lengthInOrder 53 = .ok (.aload_n 0, 1) := by decide +kernel
theorem dX6_lengthInOrder_54 : decode cX6_lengthInOrder 54 = .ok (.getfield 41, 3) := by decide +kernel
theorem dX6_lengthInOrder_57 : decode cX6_lengthInOrder 57 = .ok (.aload_n 0, 1) := by decide +kernel
theorem dX6_lengthInOrder_58 : decode cX6_lengthInOrder 58 = .ok (.getfield 21, 3) := by decide +kernel
theorem dX6_lengthInOrder_61 : decode cX6_lengthInOrder 61 = .ok (.getfield 96, 3) := by decide +kernel
theorem dX6_lengthInOrder_64 : decode cX6_lengthInOrder 64 = .ok (.bipush (-6), 2) := by decide +kernel
theorem dX6_lengthInOrder_66 : decode cX6_lengthInOrder 66 = .ok (.invokevirtual 106, 3) := by decide +kernel
theorem dX6_lengthInOrder_69 : decode cX6_lengthInOrder 69 = .ok (.ireturn, 1) := by decide +kernel
theorem dX7_init_0 : decode cX7_init 0 = .ok (.aload_n 0, 1) := by decide +kernel
theorem dX7_init_1 : decode cX7_init 1 = .ok (.invokespecial 1, 3) := by decide +kernel
theorem dX7_init_4 : decode cX7_init 4 = .ok (.aload_n 0, 1) := by decide +kernel
theorem dX7_init_5 : decode cX7_init 5 = .ok (.bipush 60, 2) := by decide +kernel
theorem dX7_init_7 : decode cX7_init 7 = .ok (.newarray .int, 2) := by decide +kernel
theorem dX7_init_9 : decode cX7_init 9 = .ok (.putfield 7, 3) := by decide +kernel
theorem dX7_init_12 : decode cX7_init 12 = .ok (.aload_n 0, 1) := by decide +kernel
theorem dX7_init_13 : decode cX7_init 13 = .ok (.iconst 5, 1) := by decide +kernel
theorem dX7_init_14 : decode cX7_init 14 = .ok (.newarray .int, 2) := by decide +kernel
theorem dX7_init_16 : decode cX7_init 16 = .ok (.putfield 13, 3) := by decide +kernel
theorem dX7_init_19 : decode cX7_init 19 = .ok (.aload_n 0, 1) := by decide +kernel
theorem dX7_init_20 : decode cX7_init 20 = .ok (.iconst 5, 1) := by decide +kernel
theorem dX7_init_21 : decode cX7_init 21 = .ok (.newarray .int, 2) := by decide +kernel
theorem dX7_init_23 : decode cX7_init 23 = .ok (.putfield 16, 3) := by decide +kernel
theorem dX7_init_26 : decode cX7_init 26 = .ok (.aload_n 0, 1) := by decide +kernel
theorem dX7_init_27 : decode cX7_init 27 = .ok (.iconst 5, 1) := by decide +kernel
theorem dX7_init_28 : decode cX7_init 28 = .ok (.newarray .int, 2) := by decide +kernel
theorem dX7_init_30 : decode cX7_init 30 = .ok (.putfield 19, 3) := by decide +kernel
theorem dX7_init_33 : decode cX7_init 33 = .ok (.aload_n 0, 1) := by decide +kernel
theorem dX7_init_34 : decode cX7_init 34 = .ok (.iconst 5, 1) := by decide +kernel
theorem dX7_init_35 : decode cX7_init 35 = .ok (.newarray .int, 2) := by decide +kernel
theorem dX7_init_37 : decode cX7_init 37 = .ok (.putfield 22, 3) := by decide +kernel
theorem dX7_init_40 : decode cX7_init 40 = .ok (.aload_n 0, 1) := by decide +kernel
theorem dX7_init_41 : decode cX7_init 41 = .ok (.bipush 30, 2) := by decide +kernel
theorem dX7_init_43 : decode cX7_init 43 = .ok (.newarray .int, 2) := by decide +kernel
theorem dX7_init_45 : decode cX7_init 45 = .ok (.putfield 25, 3) := by decide +kernel
theorem dX7_init_48 : decode cX7_init 48 = .ok (.aload_n 0, 1) := by decide +kernel
theorem dX7_init_49 : decode cX7_init 49 = .ok (.iconst 5, 1) := by decide +kernel
theorem dX7_init_50 : decode cX7_init 50 = .ok (.newarray .int, 2) := by decide +kernel
theorem dX7_init_52 : decode cX7_init 52 = .ok (.putfield 28, 3) := by decide +kernel
theorem dX7_init_55 : decode cX7_init 55 = .ok (.aload_n 0, 1) := by decide +kernel
theorem dX7_init_56 : decode cX7_init 56 = .ok (.iconst 1, 1) := by decide +kernel
theorem dX7_init_57 : decode cX7_init 57 = .ok (.putfield 31, 3) := by decide +kernel
theorem dX7_init_60 : decode cX7_init 60 = .ok (.aload_n 0, 1) := by decide +kernel
theorem dX7_init_61 : decode cX7_init 61 = .ok (.bipush 12, 2) := by decide +kernel
theorem dX7_init_63 : decode cX7_init 63 = .ok (.newarray .int, 2) := by decide +kernel
theorem dX7_init_65 : decode cX7_init 65 = .ok (.putfield 35, 3) := by decide +kernel
theorem dX7_init_68 : decode cX7_init 68 = .ok (.aload_n 0, 1) := by decide +kernel
theorem dX7_init_69 : decode cX7_init 69 = .ok (.sipush 400, 3) := by decide +kernel
theorem dX7_init_72 : decode cX7_init 72 = .ok (.newarray .int, 2) := by decide +kernel
theorem dX7_init_74 : decode cX7_init 74 = .ok (.putfield 38, 3) := by decide +kernel
theorem dX7_init_77 : decode cX7_init 77 = .ok (.aload_n 0, 1) := by decide +kernel
theorem dX7_init_78 : decode cX7_init 78 = .ok (.sipush 1300, 3) := by decide +kernel
theorem dX7_init_81 : decode cX7_init 81 = .ok (.newarray .int, 2) := by decide +kernel
theorem dX7_init_83 : decode cX7_init 83 = .ok (.putfield 41, 3) := by decide +kernel
theorem dX7_init_86 : decode cX7_init 86 = .ok (.aload_n 0, 1) := by decide +kernel
theorem dX7_init_87 : decode cX7_init 87 = .ok (.bipush 12, 2) := by decide +kernel
theorem dX7_init_89 : decode cX7_init 89 = .ok (.newarray .int, 2) := by decide +kernel
theorem dX7_init_91 : decode cX7_init 91 = .ok (.putfield 44, 3) := by decide +kernel
theorem dX7_init_94 : decode cX7_init 94 = .ok (.aload_n 0, 1) := by decide +kernel
theorem dX7_init_95 : decode cX7_init 95 = .ok (.iconst 5, 1) := by decide +kernel
theorem dX7_init_96 : decode cX7_init 96 = .ok (.newarray .int, 2) := by decide +kernel
theorem dX7_init_98 : decode cX7_init 98 = .ok (.putfield 47, 3) := by decide +kernel
theorem dX7_init_101 : decode cX7_init 101 = .ok (.aload_n 0, 1) := by decide +kernel
theorem dX7_init_102 : decode cX7_init 102 = .ok (.iconst 5, 1) := by decide +kernel
theorem dX7_init_103 : decode cX7_init 103 = .ok (.newarray .int, 2) := by decide +kernel
theorem dX7_init_105 : decode cX7_init 105 = .ok (.putfield 50, 3) := by decide +kernel
theorem dX7_init_108 : decode cX7_init 108 = .ok (.aload_n 0, 1) := by decide +kernel
theorem dX7_init_109 : decode cX7_init 109 = .ok (.iconst 5, 1) := by decide +kernel
theorem dX7_init_110 : decode cX7_init 110 = .ok (.newarray .int, 2) := by decide +kernel
theorem dX7_init_112 : decode cX7_init 112 = .ok (.putfield 53, 3) := by decide +kernel
theorem dX7_init_115 : decode cX7_init 115 = .ok (.aload_n 0, 1) := by decide +kernel
theorem dX7_init_116 : decode cX7_init 116 = .ok (.sipush 140, 3) := by decide +kernel
theorem dX7_init_119 : decode cX7_init 119 = .ok (.newarray .int, 2) := by decide +kernel
theorem dX7_init_121 : decode cX7_init 121 = .ok (.putfield 56, 3) := by decide +kernel
theorem dX7_init_124 : decode cX7_init 124 = .ok (.aload_n 0, 1) := by decide +kernel
theorem dX7_init_125 : decode cX7_init 125 = .ok (.iconst 2, 1) := by decide +kernel
theorem dX7_init_126 : decode cX7_init 126 = .ok (.newarray .boolean, 2) := by decide +kernel
theorem dX7_init_128 : decode cX7_init 128 = .ok (.putfield 59, 3) := by decide +kernel
theorem dX7_init_131 : decode cX7_init 131 = .ok (.iconst 0, 1) := by decide +kernel
theorem dX7_init_132 : decode cX7_init 132 = .ok (.istore_n 1, 1) := by decide +kernel
theorem dX7_init_133 : decode cX7_init 133 = .ok (.iload_n 1, 1) := by decide +kernel
theorem dX7_init_134 : decode cX7_init 134 = .ok (.iconst 5, 1) := by decide +kernel
theorem dX7_init_135 : decode cX7_init 135 = .ok (.if_icmp .ge 25, 3) := by decide +kernel
theorem dX7_init_138 : decode cX7_init 138 = .ok (.aload_n 0, 1) := by decide +kernel
theorem dX7_init_139 : decode cX7_init 139 = .ok (.getfield 13, 3) := by decide +kernel
theorem dX7_init_142 : decode cX7_init 142 = .ok (.iload_n 1, 1) := by decide +kernel
theorem dX7_init_143 : decode cX7_init 143 = .ok (.bipush 45, 2) := by decide +kernel
theorem dX7_init_145 : decode cX7_init 145 = .ok (.iastore, 1) := by decide +kernel
theorem dX7_init_146 : decode cX7_init 146 = .ok (.aload_n 0, 1) := by decide +kernel
theorem dX7_init_147 : decode cX7_init 147 = .ok (.getfield 19, 3) := by decide +kernel
theorem dX7_init_150 : decode cX7_init 150 = .ok (.iload_n 1, 1) := by decide +kernel
theorem dX7_init_151 : decode cX7_init 151 = .ok (.bipush (-6), 2) := by decide +kernel
theorem dX7_init_153 : decode cX7_init 153 = .ok (.iastore, 1) := by decide +kernel
theorem dX7_init_154 : decode cX7_init 154 = .ok (.iinc 1 1, 3) := by decide +kernel
theorem dX7_init_157 : decode cX7_init 157 = .ok (.goto (-24), 3) := by decide +kernel
theorem dX7_init_160 : decode cX7_init 160 = .ok (.aload_n 0, 1) := by decide +kernel
theorem dX7_init_161 : decode cX7_init 161 = .ok (.getfield 35, 3) := by decide +kernel
theorem dX7_init_164 : decode cX7_init 164 = .ok (.iconst 0, 1) := by decide +kernel
theorem dX7_init_165 : decode cX7_init 165 = .ok (.bipush 120, 2) := by decide +kernel
theorem dX7_init_167 : decode cX7_init 167 = .ok (.iastore, 1) := by decide +kernel
theorem dX7_init_168 : decode cX7_init 168 = .ok (.return_, 1) := by decide +kernel
theorem dX7_in_0 : decode cX7_in 0 = .ok (.iload_n 0, 1) := by decide +kernel
theorem dX7_in_1 : decode cX7_in 1 = .ok (.iload_n 1, 1) := by decide +kernel
theorem dX7_in_2 : decode cX7_in 2 = .ok (.if_icmp .lt 12, 3) := by decide +kernel
theorem dX7_in_5 : decode cX7_in 5 = .ok (.iload_n 0, 1) := by decide +kernel
theorem dX7_in_6 : decode cX7_in 6 = .ok (.iload_n 2, 1) := by decide +kernel
theorem dX7_in_7 : decode cX7_in 7 = .ok (.if_icmp .gt 7, 3) := by decide +kernel
theorem dX7_in_10 : decode cX7_in 10 = .ok (.iconst 1, 1) := by decide +kernel
theorem dX7_in_11 : decode cX7_in 11 = .ok (.goto 4, 3) := by decide +kernel
theorem dX7_in_14 : decode cX7_in 14 = .ok (.iconst 0, 1) := by decide +kernel
theorem dX7_in_15 : decode cX7_in 15 = .ok (.ireturn, 1) := by decide +kernel
theorem dX7_isLayer_0 : decode cX7_isLayer 0 = .ok (.iload_n 0, 1) := by decide +kernel
theorem dX7_isLayer_1 : decode cX7_isLayer 1 = .ok (.iconst 0, 1) := by decide +kernel
theorem dX7_isLayer_2 : decode cX7_isLayer 2 = .ok (.iconst 4, 1) := by decide +kernel
theorem dX7_isLayer_3 : decode cX7_isLayer 3 = .ok (.invokestatic 63, 3) := by decide +kernel
theorem dX7_isLayer_6 : decode cX7_isLayer 6 = .ok (.ireturn, 1) := by decide +kernel
theorem dX7_say_0 : decode cX7_say 0 = .ok (.iload_n 1, 1) := by decide +kernel
theorem dX7_say_1 : decode cX7_say 1 = .ok (.bipush 33, 2) := by decide +kernel
theorem dX7_say_3 : decode cX7_say 3 = .ok (.bipush 126, 2) := by decide +kernel
theorem dX7_say_5 : decode cX7_say 5 = .ok (.invokestatic 63, 3) := by decide +kernel
theorem dX7_say_8 : decode cX7_say 8 = .ok (.ifCond .ne 6, 3) := by decide +kernel
theorem dX7_say_11 : decode cX7_say 11 = .ok (.bipush (-2), 2) := by decide +kernel
theorem dX7_say_13 : decode cX7_say 13 = .ok (.ireturn, 1) := by decide +kernel
theorem dX7_say_14 : decode cX7_say 14 = .ok (.aload_n 0, 1) := by decide +kernel
theorem dX7_say_15 : decode cX7_say 15 = .ok (.getfield 67, 3) := by decide +kernel
theorem dX7_say_18 : decode cX7_say 18 = .ok (.bipush 60, 2) := by decide +kernel
theorem dX7_say_20 : decode cX7_say 20 = .ok (.if_icmp .ne 6, 3) := by decide +kernel
theorem dX7_say_23 : decode cX7_say 23 = .ok (.bipush (-4), 2) := by decide +kernel
theorem dX7_say_25 : decode cX7_say 25 = .ok (.ireturn, 1) := by decide +kernel
theorem dX7_say_26 : decode cX7_say 26 = .ok (.aload_n 0, 1) := by decide +kernel
theorem dX7_say_27 : decode cX7_say 27 = .ok (.getfield 7, 3) := by decide +kernel
theorem dX7_say_30 : decode cX7_say 30 = .ok (.aload_n 0, 1) := by decide +kernel
theorem dX7_say_31 : decode cX7_say 31 = .ok (.getfield 67, 3) := by decide +kernel
theorem dX7_say_34 : decode cX7_say 34 = .ok (.iload_n 1, 1) := by decide +kernel
theorem dX7_say_35 : decode cX7_say 35 = .ok (.iastore, 1) := by decide +kernel
theorem dX7_say_36 : decode cX7_say 36 = .ok (.aload_n 0, 1) := by decide +kernel
theorem dX7_say_37 : decode cX7_say 37 = .ok (.dup, 1) := by decide +kernel
theorem dX7_say_38 : decode cX7_say 38 = .ok (.getfield 67, 3) := by decide +kernel
theorem dX7_say_41 : decode cX7_say 41 = .ok (.iconst 1, 1) := by decide +kernel
theorem dX7_say_42 : decode cX7_say 42 = .ok (.iadd, 1) := by decide +kernel
theorem dX7_say_43 : decode cX7_say 43 = .ok (.putfield 67, 3) := by decide +kernel
theorem dX7_say_46 : decode cX7_say 46 = .ok (.aload_n 0, 1) := by decide +kernel
theorem dX7_say_47 : decode cX7_say 47 = .ok (.getfield 67, 3) := by decide +kernel
theorem dX7_say_50 : decode cX7_say 50 = .ok (.ireturn, 1) := by decide +kernel
theorem dX7_wipe_0 : decode cX7_wipe 0 = .ok (.aload_n 0, 1) := by decide +kernel
theorem dX7_wipe_1 : decode cX7_wipe 1 = .ok (.getfield 67, 3) := by decide +kernel
theorem dX7_wipe_4 : decode cX7_wipe 4 = .ok (.istore_n 1, 1) := by decide +kernel
theorem dX7_wipe_5 : decode cX7_wipe 5 = .ok (.aload_n 0, 1) := by decide +kernel
theorem dX7_wipe_6 : decode cX7_wipe 6 = .ok (.iconst 0, 1) := by decide +kernel
theorem dX7_wipe_7 : decode cX7_wipe 7 = .ok (.putfield 67, 3) := by decide +kernel
theorem dX7_wipe_10 : decode cX7_wipe 10 = .ok (.iload_n 1, 1) := by decide +kernel
theorem dX7_wipe_11 : decode cX7_wipe 11 = .ok (.ireturn, 1) := by decide +kernel
theorem dX7_isDigit_0 : decode cX7_isDigit 0 = .ok (.iload_n 0, 1) := by decide +kernel
theorem dX7_isDigit_1 : decode cX7_isDigit 1 = .ok (.bipush 48, 2) := by decide +kernel
theorem dX7_isDigit_3 : decode cX7_isDigit 3 = .ok (.bipush 57, 2) := by decide +kernel
theorem dX7_isDigit_5 : decode cX7_isDigit 5 = .ok (.invokestatic 63, 3) := by decide +kernel
theorem dX7_isDigit_8 : decode cX7_isDigit 8 = .ok (.ifCond .ne 14, 3) := by decide +kernel
theorem dX7_isDigit_11 : decode cX7_isDigit 11 = .ok (.iload_n 0, 1) := by decide +kernel
theorem dX7_isDigit_12 : decode cX7_isDigit 12 = .ok (.bipush 97, 2) := by decide +kernel
theorem dX7_isDigit_14 : decode cX7_isDigit 14 = .ok (.bipush 102, 2) := by decide +kernel
theorem dX7_isDigit_16 : decode cX7_isDigit 16 = .ok (.invokestatic 63, 3) := by decide +kernel
theorem dX7_isDigit_19 : decode cX7_isDigit 19 = .ok (.ifCond .eq 7, 3) := by decide +kernel
theorem dX7_isDigit_22 : decode cX7_isDigit 22 = .ok (.iconst 1, 1) := by decide +kernel
theorem dX7_isDigit_23 : decode cX7_isDigit 23 = .ok (.goto 4, 3) := by decide +kernel
theorem dX7_isDigit_26 : decode cX7_isDigit 26 = .ok (.iconst 0, 1) := by decide +kernel
theorem dX7_isDigit_27 : decode cX7_isDigit 27 = .ok (.ireturn, 1) := by decide +kernel
theorem dX7_isNew_0 : decode cX7_isNew 0 = .ok (.aload_n 0, 1) := by decide +kernel
theorem dX7_isNew_1 : decode cX7_isNew 1 = .ok (.getfield 7, 3) := by decide +kernel
theorem dX7_isNew_4 : decode cX7_isNew 4 = .ok (.iload_n 1, 1) := by decide +kernel
theorem dX7_isNew_5 : decode cX7_isNew 5 = .ok (.iaload, 1) := by decide +kernel
theorem dX7_isNew_6 : decode cX7_isNew 6 = .ok (.invokestatic 70, 3) := by decide +kernel
theorem dX7_isNew_9 : decode cX7_isNew 9 = .ok (.ifCond .ne 22, 3) := by decide +kernel
theorem dX7_isNew_12 : decode cX7_isNew 12 = .ok (.aload_n 0, 1) := by decide +kernel
theorem dX7_isNew_13 : decode cX7_isNew 13 = .ok (.getfield 7, 3) := by decide +kernel
theorem dX7_isNew_16 : decode cX7_isNew 16 = .ok (.iload_n 1, 1) := by decide +kernel
theorem dX7_isNew_17 : decode cX7_isNew 17 = .ok (.iaload, 1) := by decide +kernel
theorem dX7_isNew_18 : decode cX7_isNew 18 = .ok (.bipush 45, 2) := by decide +kernel
theorem dX7_isNew_20 : decode cX7_isNew 20 = .ok (.if_icmp .ne 7, 3) := by decide +kernel
theorem dX7_isNew_23 : decode cX7_isNew 23 = .ok (.iload_n 1, 1) := by decide +kernel
theorem dX7_isNew_24 : decode cX7_isNew 24 = .ok (.ifCond .ne 7, 3) := by decide +kernel
theorem dX7_isNew_27 : decode cX7_isNew 27 = .ok (.iconst 1, 1) := by decide +kernel
theorem dX7_isNew_28 : decode cX7_isNew 28 = .ok (.goto 4, 3) := by decide +kernel
theorem dX7_isNew_31 : decode cX7_isNew 31 = .ok (.iconst 0, 1) := by decide +kernel
theorem dX7_isNew_32 : decode cX7_isNew 32 = .ok (.istore_n 2, 1) := by decide +kernel
theorem dX7_isNew_33 : decode cX7_isNew 33 = .ok (.iconst 0, 1) := by decide +kernel
theorem dX7_isNew_34 : decode cX7_isNew 34 = .ok (.istore_n 3, 1) := by decide +kernel
theorem dX7_isNew_35 : decode cX7_isNew 35 = .ok (.iload_n 3, 1) := by decide +kernel
theorem dX7_isNew_36 : decode cX7_isNew 36 = .ok (.iload_n 1, 1) := by decide +kernel
theorem dX7_isNew_37 : decode cX7_isNew 37 = .ok (.if_icmp .ge 39, 3) := by decide +kernel
theorem dX7_isNew_40 : decode cX7_isNew 40 = .ok (.iload_n 2, 1) := by decide +kernel
theorem dX7_isNew_41 : decode cX7_isNew 41 = .ok (.ifCond .eq 27, 3) := by decide +kernel
theorem dX7_isNew_44 : decode cX7_isNew 44 = .ok (.iload_n 3, 1) := by decide +kernel
theorem dX7_isNew_45 : decode cX7_isNew 45 = .ok (.iconst 1, 1) := by decide +kernel
theorem dX7_isNew_46 : decode cX7_isNew 46 = .ok (.if_icmp .eq 18, 3) := by decide +kernel
theorem dX7_isNew_49 : decode cX7_isNew 49 = .ok (.aload_n 0, 1) := by decide +kernel
theorem dX7_isNew_50 : decode cX7_isNew 50 = .ok (.getfield 7, 3) := by decide +kernel
theorem dX7_isNew_53 : decode cX7_isNew 53 = .ok (.iload_n 3, 1) := by decide +kernel
theorem dX7_isNew_54 : decode cX7_isNew 54 = .ok (.iaload, 1) := by decide +kernel
theorem dX7_isNew_55 : decode cX7_isNew 55 = .ok (.aload_n 0, 1) := by decide +kernel
theorem dX7_isNew_56 : decode cX7_isNew 56 = .ok (.getfield 7, 3) := by decide +kernel
theorem dX7_isNew_59 : decode cX7_isNew 59 = .ok (.iload_n 1, 1) := by decide +kernel
theorem dX7_isNew_60 : decode cX7_isNew 60 = .ok (.iaload, 1) := by decide +kernel
theorem dX7_isNew_61 : decode cX7_isNew 61 = .ok (.if_icmp .eq 7, 3) := by decide +kernel
theorem dX7_isNew_64 : decode cX7_isNew 64 = .ok (.iconst 1, 1) := by decide +kernel
theorem dX7_isNew_65 : decode cX7_isNew 65 = .ok (.goto 4, 3) := by decide +kernel
theorem dX7_isNew_68 : decode cX7_isNew 68 = .ok (.iconst 0, 1) := by decide +kernel
theorem dX7_isNew_69 : decode cX7_isNew 69 = .ok (.istore_n 2, 1) := by decide +kernel
theorem dX7_isNew_70 : decode cX7_isNew 70 = .ok (.iinc 3 1, 3) := by decide +kernel
theorem dX7_isNew_73 : decode cX7_isNew 73 = .ok (.goto (-38), 3) := by decide +kernel
theorem dX7_isNew_76 : decode cX7_isNew 76 = .ok (.iload_n 2, 1) := by decide +kernel
theorem dX7_isNew_77 : decode cX7_isNew 77 = .ok (.ireturn, 1) := by decide +kernel
theorem dX7_faultOf_0 : decode cX7_faultOf 0 = .ok (.iconst 0, 1) := by decide +kernel
theorem dX7_faultOf_1 : decode cX7_faultOf 1 = .ok (.istore_n 1, 1) := by decide +kernel
theorem dX7_faultOf_2 : decode cX7_faultOf 2 = .ok (.iload_n 1, 1) := by decide +kernel
theorem dX7_faultOf_3 : decode cX7_faultOf 3 = .ok (.aload_n 0, 1) := by decide +kernel
theorem dX7_faultOf_4 : decode cX7_faultOf 4 = .ok (.getfield 67, 3) := by decide +kernel
theorem dX7_faultOf_7 : decode cX7_faultOf 7 = .ok (.if_icmp .ge 157, 3) := by decide +kernel
theorem dX7_faultOf_10 : decode cX7_faultOf 10 = .ok (.iload_n 1, 1) := by decide +kernel
theorem dX7_faultOf_11 : decode cX7_faultOf 11 = .ok (.iconst 1, 1) := by decide +kernel
theorem dX7_faultOf_12 : decode cX7_faultOf 12 = .ok (.if_icmp .ne 50, 3) := by decide +kernel
theorem dX7_faultOf_15 : decode cX7_faultOf 15 = .ok (.aload_n 0, 1) := by decide +kernel
theorem dX7_faultOf_16 : decode cX7_faultOf 16 = .ok (.getfield 7, 3) := by decide +kernel
theorem dX7_faultOf_19 : decode cX7_faultOf 19 = .ok (.iconst 1, 1) := by decide +kernel
theorem dX7_faultOf_20 : decode cX7_faultOf 20 = .ok (.iaload, 1) := by decide +kernel
theorem dX7_faultOf_21 : decode cX7_faultOf 21 = .ok (.bipush 48, 2) := by decide +kernel
theorem dX7_faultOf_23 : decode cX7_faultOf 23 = .ok (.bipush 51, 2) := by decide +kernel
theorem dX7_faultOf_25 : decode cX7_faultOf 25 = .ok (.invokestatic 63, 3) := by decide +kernel
theorem dX7_faultOf_28 : decode cX7_faultOf 28 = .ok (.ifCond .eq 29, 3) := by decide +kernel
theorem dX7_faultOf_31 : decode cX7_faultOf 31 = .ok (.aload_n 0, 1) := by decide +kernel
theorem dX7_faultOf_32 : decode cX7_faultOf 32 = .ok (.getfield 7, 3) := by decide +kernel
theorem dX7_faultOf_35 : decode cX7_faultOf 35 = .ok (.iconst 1, 1) := by decide +kernel
theorem dX7_faultOf_36 : decode cX7_faultOf 36 = .ok (.iaload, 1) := by decide +kernel
theorem dX7_faultOf_37 : decode cX7_faultOf 37 = .ok (.bipush 50, 2) := by decide +kernel
theorem dX7_faultOf_39 : decode cX7_faultOf 39 = .ok (.if_icmp .ne 14, 3) := by decide +kernel
theorem dX7_faultOf_42 : decode cX7_faultOf 42 = .ok (.aload_n 0, 1) := by decide +kernel
theorem dX7_faultOf_43 : decode cX7_faultOf 43 = .ok (.getfield 7, 3) := by decide +kernel
theorem dX7_faultOf_46 : decode cX7_faultOf 46 = .ok (.iconst 0, 1) := by decide +kernel
theorem dX7_faultOf_47 : decode cX7_faultOf 47 = .ok (.iaload, 1) := by decide +kernel
theorem dX7_faultOf_48 : decode cX7_faultOf 48 = .ok (.bipush 45, 2) := by decide +kernel
theorem dX7_faultOf_50 : decode cX7_faultOf 50 = .ok (.if_icmp .eq 7, 3) := by decide +kernel
theorem dX7_faultOf_53 : decode cX7_faultOf 53 = .ok (.iconst 1, 1) := by decide +kernel
theorem dX7_faultOf_54 : decode cX7_faultOf 54 = .ok (.goto 4, 3) := by decide +kernel
theorem dX7_faultOf_57 : decode cX7_faultOf 57 = .ok (.iconst 0, 1) := by decide +kernel
theorem dX7_faultOf_58 : decode cX7_faultOf 58 = .ok (.istore_n 2, 1) := by decide +kernel
theorem dX7_faultOf_59 : decode cX7_faultOf 59 = .ok (.goto 93, 3) := by decide +kernel
theorem dX7_faultOf_62 : decode cX7_faultOf 62 = .ok (.iload_n 1, 1) := by decide +kernel
theorem dX7_faultOf_63 : decode cX7_faultOf 63 = .ok (.iconst 1, 1) := by decide +kernel
theorem dX7_faultOf_64 : decode cX7_faultOf 64 = .ok (.if_icmp .le 29, 3) := by decide +kernel
theorem dX7_faultOf_67 : decode cX7_faultOf 67 = .ok (.aload_n 0, 1) := by decide +kernel
theorem dX7_faultOf_68 : decode cX7_faultOf 68 = .ok (.getfield 7, 3) := by decide +kernel
theorem dX7_faultOf_71 : decode cX7_faultOf 71 = .ok (.iconst 1, 1) := by decide +kernel
theorem dX7_faultOf_72 : decode cX7_faultOf 72 = .ok (.iaload, 1) := by decide +kernel
theorem dX7_faultOf_73 : decode cX7_faultOf 73 = .ok (.bipush 49, 2) := by decide +kernel
theorem dX7_faultOf_75 : decode cX7_faultOf 75 = .ok (.if_icmp .eq 14, 3) := by decide +kernel
theorem dX7_faultOf_78 : decode cX7_faultOf 78 = .ok (.aload_n 0, 1) := by decide +kernel
theorem dX7_faultOf_79 : decode cX7_faultOf 79 = .ok (.getfield 7, 3) := by decide +kernel
theorem dX7_faultOf_82 : decode cX7_faultOf 82 = .ok (.iconst 1, 1) := by decide +kernel
theorem dX7_faultOf_83 : decode cX7_faultOf 83 = .ok (.iaload, 1) := by decide +kernel
theorem dX7_faultOf_84 : decode cX7_faultOf 84 = .ok (.bipush 51, 2) := by decide +kernel
theorem dX7_faultOf_86 : decode cX7_faultOf 86 = .ok (.if_icmp .ne 7, 3) := by decide +kernel
theorem dX7_faultOf_89 : decode cX7_faultOf 89 = .ok (.iconst 1, 1) := by decide +kernel
theorem dX7_faultOf_90 : decode cX7_faultOf 90 = .ok (.goto 4, 3) := by decide +kernel
theorem dX7_faultOf_93 : decode cX7_faultOf 93 = .ok (.iconst 0, 1) := by decide +kernel
theorem dX7_faultOf_94 : decode cX7_faultOf 94 = .ok (.istore_n 3, 1) := by decide +kernel
theorem dX7_faultOf_95 : decode cX7_faultOf 95 = .ok (.iload_n 1, 1) := by decide +kernel
theorem dX7_faultOf_96 : decode cX7_faultOf 96 = .ok (.iconst 2, 1) := by decide +kernel
theorem dX7_faultOf_97 : decode cX7_faultOf 97 = .ok (.if_icmp .ge 7, 3) := by decide +kernel
theorem dX7_faultOf_100 : decode cX7_faultOf 100 = .ok (.iconst 1, 1) := by decide +kernel
theorem dX7_faultOf_101 : decode cX7_faultOf 101 = .ok (.goto 22, 3) := by decide +kernel
theorem dX7_faultOf_104 : decode cX7_faultOf 104 = .ok (.aload_n 0, 1) := by decide +kernel
theorem dX7_faultOf_105 : decode cX7_faultOf 105 = .ok (.getfield 7, 3) := by decide +kernel
theorem dX7_faultOf_108 : decode cX7_faultOf 108 = .ok (.iconst 1, 1) := by decide +kernel
theorem dX7_faultOf_109 : decode cX7_faultOf 109 = .ok (.iaload, 1) := by decide +kernel
theorem dX7_faultOf_110 : decode cX7_faultOf 110 = .ok (.bipush 50, 2) := by decide +kernel
theorem dX7_faultOf_112 : decode cX7_faultOf 112 = .ok (.if_icmp .ne 7, 3) := by decide +kernel
theorem dX7_faultOf_115 : decode cX7_faultOf 115 = .ok (.iconst 0, 1) := by decide +kernel
theorem dX7_faultOf_116 : decode cX7_faultOf 116 = .ok (.goto 7, 3) := by decide +kernel
theorem dX7_faultOf_119 : decode cX7_faultOf 119 = .ok (.bipush 6, 2) := by decide +kernel
theorem dX7_faultOf_121 : decode cX7_faultOf 121 = .ok (.iload_n 3, 1) := by decide +kernel
theorem dX7_faultOf_122 : decode cX7_faultOf 122 = .ok (.iadd, 1) := by decide +kernel
theorem dX7_faultOf_123 : decode cX7_faultOf 123 = .ok (.istore 4, 2) := by decide +kernel
theorem dX7_faultOf_125 : decode cX7_faultOf 125 = .ok (.aload_n 0, 1) := by decide +kernel
theorem dX7_faultOf_126 : decode cX7_faultOf 126 = .ok (.iload_n 1, 1) := by decide +kernel
theorem dX7_faultOf_127 : decode cX7_faultOf 127 = .ok (.invokevirtual 74, 3) := by decide +kernel
theorem dX7_faultOf_130 : decode cX7_faultOf 130 = .ok (.ifCond .eq 20, 3) := by decide +kernel
theorem dX7_faultOf_133 : decode cX7_faultOf 133 = .ok (.iload_n 1, 1) := by decide +kernel
theorem dX7_faultOf_134 : decode cX7_faultOf 134 = .ok (.iconst 2, 1) := by decide +kernel
theorem dX7_faultOf_135 : decode cX7_faultOf 135 = .ok (.if_icmp .lt 11, 3) := by decide +kernel
theorem dX7_faultOf_138 : decode cX7_faultOf 138 = .ok (.iload_n 1, 1) := by decide +kernel
theorem dX7_faultOf_139 : decode cX7_faultOf 139 = .ok (.iconst 2, 1) := by decide +kernel
theorem dX7_faultOf_140 : decode cX7_faultOf 140 = .ok (.isub, 1) := by decide +kernel
theorem dX7_faultOf_141 : decode cX7_faultOf 141 = .ok (.iload 4, 2) := by decide +kernel
theorem dX7_faultOf_143 : decode cX7_faultOf 143 = .ok (.if_icmp .ge 7, 3) := by decide +kernel
theorem dX7_faultOf_146 : decode cX7_faultOf 146 = .ok (.iconst 1, 1) := by decide +kernel
theorem dX7_faultOf_147 : decode cX7_faultOf 147 = .ok (.goto 4, 3) := by decide +kernel
theorem dX7_faultOf_150 : decode cX7_faultOf 150 = .ok (.iconst 0, 1) := by decide +kernel
theorem dX7_faultOf_151 : decode cX7_faultOf 151 = .ok (.istore_n 2, 1) := by decide +kernel
theorem dX7_faultOf_152 : decode cX7_faultOf 152 = .ok (.iload_n 2, 1) := by decide +kernel
theorem dX7_faultOf_153 : decode cX7_faultOf 153 = .ok (.ifCond .ne 5, 3) := by decide +kernel
theorem dX7_faultOf_156 : decode cX7_faultOf 156 = .ok (.iload_n 1, 1) := by decide +kernel
theorem dX7_faultOf_157 : decode cX7_faultOf 157 = .ok (.ireturn, 1) := by decide +kernel
theorem dX7_faultOf_158 : decode cX7_faultOf 158 = .ok (.iinc 1 1, 3) := by decide +kernel
theorem dX7_faultOf_161 : decode cX7_faultOf 161 = .ok (.goto (-159), 3) := by decide +kernel
theorem dX7_faultOf_164 : decode cX7_faultOf 164 = .ok (.aload_n 0, 1) := by decide +kernel
theorem dX7_faultOf_165 : decode cX7_faultOf 165 = .ok (.getfield 67, 3) := by decide +kernel
theorem dX7_faultOf_168 : decode cX7_faultOf 168 = .ok (.iconst 1, 1) := by decide +kernel
theorem dX7_faultOf_169 : decode cX7_faultOf 169 = .ok (.if_icmp .le 37, 3) := by decide +kernel
theorem dX7_faultOf_172 : decode cX7_faultOf 172 = .ok (.aload_n 0, 1) := by decide +kernel
theorem dX7_faultOf_173 : decode cX7_faultOf 173 = .ok (.getfield 67, 3) := by decide +kernel
theorem dX7_faultOf_176 : decode cX7_faultOf 176 = .ok (.iconst 2, 1) := by decide +kernel
theorem dX7_faultOf_177 : decode cX7_faultOf 177 = .ok (.if_icmp .gt 25, 3) := by decide +kernel
theorem dX7_faultOf_180 : decode cX7_faultOf 180 = .ok (.aload_n 0, 1) := by decide +kernel
theorem dX7_faultOf_181 : decode cX7_faultOf 181 = .ok (.getfield 7, 3) := by decide +kernel
theorem dX7_faultOf_184 : decode cX7_faultOf 184 = .ok (.iconst 1, 1) := by decide +kernel
end
section
theorem dX7_faultOf_185 : decode cX7_faultOf 185 = .ok (.iaload, 1) := by decide +kernel
theorem dX7_faultOf_186 : decode cX7_faultOf 186 = .ok (.bipush 48, 2) := by decide +kernel
theorem dX7_faultOf_188 : decode cX7_faultOf 188 = .ok (.if_icmp .eq 14, 3) := by decide +kernel
theorem dX7_faultOf_191 : decode cX7_faultOf 191 = .ok (.aload_n 0, 1) := by decide +kernel
theorem dX7_faultOf_192 : decode cX7_faultOf 192 = .ok (.getfield 7, 3) := by decide +kernel
theorem dX7_faultOf_195 : decode cX7_faultOf 195 = .ok (.iconst 1, 1) := by decide +kernel
theorem dX7_faultOf_196 : decode cX7_faultOf 196 = .ok (.iaload, 1) := by decide +kernel
theorem dX7_faultOf_197 : decode cX7_faultOf 197 = .ok (.bipush 50, 2) := by decide +kernel
theorem dX7_faultOf_199 : decode cX7_faultOf 199 = .ok (.if_icmp .ne 7, 3) := by decide +kernel
theorem dX7_faultOf_202 : decode cX7_faultOf 202 = .ok (.iconst 1, 1) := by decide +kernel
theorem dX7_faultOf_203 : decode cX7_faultOf 203 = .ok (.goto 4, 3) := by decide +kernel
theorem dX7_faultOf_206 : decode cX7_faultOf 206 = .ok (.iconst 0, 1) := by decide +kernel
theorem dX7_faultOf_207 : decode cX7_faultOf 207 = .ok (.istore_n 1, 1) := by decide +kernel
theorem dX7_faultOf_208 : decode cX7_faultOf 208 = .ok (.iload_n 1, 1) := by decide +kernel
theorem dX7_faultOf_209 : decode cX7_faultOf 209 = .ok (.ifCond .eq 8, 3) := by decide +kernel
theorem dX7_faultOf_212 : decode cX7_faultOf 212 = .ok (.bipush (-6), 2) := by decide +kernel
theorem dX7_faultOf_214 : decode cX7_faultOf 214 = .ok (.goto 7, 3) := by decide +kernel
theorem dX7_faultOf_217 : decode cX7_faultOf 217 = .ok (.aload_n 0, 1) := by decide +kernel
theorem dX7_faultOf_218 : decode cX7_faultOf 218 = .ok (.getfield 67, 3) := by decide +kernel
theorem dX7_faultOf_221 : decode cX7_faultOf 221 = .ok (.ireturn, 1) := by decide +kernel
theorem dX7_fault_0 : decode cX7_fault 0 = .ok (.aload_n 0, 1) := by decide +kernel
theorem dX7_fault_1 : decode cX7_fault 1 = .ok (.invokevirtual 77, 3) := by decide +kernel
theorem dX7_fault_4 : decode cX7_fault 4 = .ok (.ireturn, 1) := by decide +kernel
theorem dX7_layer_0 : decode cX7_layer 0 = .ok (.iload_n 1, 1) := by decide +kernel
theorem dX7_layer_1 : decode cX7_layer 1 = .ok (.invokestatic 81, 3) := by decide +kernel
theorem dX7_layer_4 : decode cX7_layer 4 = .ok (.ifCond .ne 5, 3) := by decide +kernel
theorem dX7_layer_7 : decode cX7_layer 7 = .ok (.iconst (-1), 1) := by decide +kernel
theorem dX7_layer_8 : decode cX7_layer 8 = .ok (.ireturn, 1) := by decide +kernel
theorem dX7_layer_9 : decode cX7_layer 9 = .ok (.aload_n 0, 1) := by decide +kernel
theorem dX7_layer_10 : decode cX7_layer 10 = .ok (.invokevirtual 77, 3) := by decide +kernel
theorem dX7_layer_13 : decode cX7_layer 13 = .ok (.ifCond .lt 6, 3) := by decide +kernel
theorem dX7_layer_16 : decode cX7_layer 16 = .ok (.bipush (-5), 2) := by decide +kernel
theorem dX7_layer_18 : decode cX7_layer 18 = .ok (.ireturn, 1) := by decide +kernel
theorem dX7_layer_19 : decode cX7_layer 19 = .ok (.aload_n 0, 1) := by decide +kernel
theorem dX7_layer_20 : decode cX7_layer 20 = .ok (.getfield 13, 3) := by decide +kernel
theorem dX7_layer_23 : decode cX7_layer 23 = .ok (.iload_n 1, 1) := by decide +kernel
theorem dX7_layer_24 : decode cX7_layer 24 = .ok (.aload_n 0, 1) := by decide +kernel
theorem dX7_layer_25 : decode cX7_layer 25 = .ok (.getfield 7, 3) := by decide +kernel
theorem dX7_layer_28 : decode cX7_layer 28 = .ok (.iconst 0, 1) := by decide +kernel
theorem dX7_layer_29 : decode cX7_layer 29 = .ok (.iaload, 1) := by decide +kernel
theorem dX7_layer_30 : decode cX7_layer 30 = .ok (.iastore, 1) := by decide +kernel
theorem dX7_layer_31 : decode cX7_layer 31 = .ok (.aload_n 0, 1) := by decide +kernel
theorem dX7_layer_32 : decode cX7_layer 32 = .ok (.getfield 16, 3) := by decide +kernel
theorem dX7_layer_35 : decode cX7_layer 35 = .ok (.iload_n 1, 1) := by decide +kernel
theorem dX7_layer_36 : decode cX7_layer 36 = .ok (.aload_n 0, 1) := by decide +kernel
theorem dX7_layer_37 : decode cX7_layer 37 = .ok (.getfield 7, 3) := by decide +kernel
theorem dX7_layer_40 : decode cX7_layer 40 = .ok (.iconst 1, 1) := by decide +kernel
theorem dX7_layer_41 : decode cX7_layer 41 = .ok (.iaload, 1) := by decide +kernel
theorem dX7_layer_42 : decode cX7_layer 42 = .ok (.bipush 48, 2) := by decide +kernel
theorem dX7_layer_44 : decode cX7_layer 44 = .ok (.isub, 1) := by decide +kernel
theorem dX7_layer_45 : decode cX7_layer 45 = .ok (.iastore, 1) := by decide +kernel
theorem dX7_layer_46 : decode cX7_layer 46 = .ok (.aload_n 0, 1) := by decide +kernel
theorem dX7_layer_47 : decode cX7_layer 47 = .ok (.getfield 16, 3) := by decide +kernel
theorem dX7_layer_50 : decode cX7_layer 50 = .ok (.iload_n 1, 1) := by decide +kernel
theorem dX7_layer_51 : decode cX7_layer 51 = .ok (.iaload, 1) := by decide +kernel
theorem dX7_layer_52 : decode cX7_layer 52 = .ok (.iconst 1, 1) := by decide +kernel
theorem dX7_layer_53 : decode cX7_layer 53 = .ok (.if_icmp .eq 13, 3) := by decide +kernel
theorem dX7_layer_56 : decode cX7_layer 56 = .ok (.aload_n 0, 1) := by decide +kernel
theorem dX7_layer_57 : decode cX7_layer 57 = .ok (.getfield 16, 3) := by decide +kernel
theorem dX7_layer_60 : decode cX7_layer 60 = .ok (.iload_n 1, 1) := by decide +kernel
theorem dX7_layer_61 : decode cX7_layer 61 = .ok (.iaload, 1) := by decide +kernel
theorem dX7_layer_62 : decode cX7_layer 62 = .ok (.iconst 3, 1) := by decide +kernel
theorem dX7_layer_63 : decode cX7_layer 63 = .ok (.if_icmp .ne 7, 3) := by decide +kernel
theorem dX7_layer_66 : decode cX7_layer 66 = .ok (.iconst 1, 1) := by decide +kernel
theorem dX7_layer_67 : decode cX7_layer 67 = .ok (.goto 4, 3) := by decide +kernel
theorem dX7_layer_70 : decode cX7_layer 70 = .ok (.iconst 0, 1) := by decide +kernel
theorem dX7_layer_71 : decode cX7_layer 71 = .ok (.istore_n 2, 1) := by decide +kernel
theorem dX7_layer_72 : decode cX7_layer 72 = .ok (.aload_n 0, 1) := by decide +kernel
theorem dX7_layer_73 : decode cX7_layer 73 = .ok (.getfield 19, 3) := by decide +kernel
theorem dX7_layer_76 : decode cX7_layer 76 = .ok (.iload_n 1, 1) := by decide +kernel
theorem dX7_layer_77 : decode cX7_layer 77 = .ok (.iload_n 2, 1) := by decide +kernel
theorem dX7_layer_78 : decode cX7_layer 78 = .ok (.ifCond .eq 12, 3) := by decide +kernel
theorem dX7_layer_81 : decode cX7_layer 81 = .ok (.aload_n 0, 1) := by decide +kernel
theorem dX7_layer_82 : decode cX7_layer 82 = .ok (.getfield 7, 3) := by decide +kernel
theorem dX7_layer_85 : decode cX7_layer 85 = .ok (.iconst 2, 1) := by decide +kernel
theorem dX7_layer_86 : decode cX7_layer 86 = .ok (.iaload, 1) := by decide +kernel
theorem dX7_layer_87 : decode cX7_layer 87 = .ok (.goto 5, 3) := by decide +kernel
theorem dX7_layer_90 : decode cX7_layer 90 = .ok (.bipush (-6), 2) := by decide +kernel
theorem dX7_layer_92 : decode cX7_layer 92 = .ok (.iastore, 1) := by decide +kernel
theorem dX7_layer_93 : decode cX7_layer 93 = .ok (.iload_n 2, 1) := by decide +kernel
theorem dX7_layer_94 : decode cX7_layer 94 = .ok (.ifCond .eq 7, 3) := by decide +kernel
theorem dX7_layer_97 : decode cX7_layer 97 = .ok (.iconst 3, 1) := by decide +kernel
theorem dX7_layer_98 : decode cX7_layer 98 = .ok (.goto 4, 3) := by decide +kernel
theorem dX7_layer_101 : decode cX7_layer 101 = .ok (.iconst 2, 1) := by decide +kernel
theorem dX7_layer_102 : decode cX7_layer 102 = .ok (.istore_n 3, 1) := by decide +kernel
theorem dX7_layer_103 : decode cX7_layer 103 = .ok (.aload_n 0, 1) := by decide +kernel
theorem dX7_layer_104 : decode cX7_layer 104 = .ok (.getfield 22, 3) := by decide +kernel
theorem dX7_layer_107 : decode cX7_layer 107 = .ok (.iload_n 1, 1) := by decide +kernel
theorem dX7_layer_108 : decode cX7_layer 108 = .ok (.aload_n 0, 1) := by decide +kernel
theorem dX7_layer_109 : decode cX7_layer 109 = .ok (.getfield 67, 3) := by decide +kernel
theorem dX7_layer_112 : decode cX7_layer 112 = .ok (.iload_n 3, 1) := by decide +kernel
theorem dX7_layer_113 : decode cX7_layer 113 = .ok (.isub, 1) := by decide +kernel
theorem dX7_layer_114 : decode cX7_layer 114 = .ok (.iastore, 1) := by decide +kernel
theorem dX7_layer_115 : decode cX7_layer 115 = .ok (.iconst 0, 1) := by decide +kernel
theorem dX7_layer_116 : decode cX7_layer 116 = .ok (.istore 4, 2) := by decide +kernel
theorem dX7_layer_118 : decode cX7_layer 118 = .ok (.iload 4, 2) := by decide +kernel
theorem dX7_layer_120 : decode cX7_layer 120 = .ok (.aload_n 0, 1) := by decide +kernel
theorem dX7_layer_121 : decode cX7_layer 121 = .ok (.getfield 22, 3) := by decide +kernel
theorem dX7_layer_124 : decode cX7_layer 124 = .ok (.iload_n 1, 1) := by decide +kernel
theorem dX7_layer_125 : decode cX7_layer 125 = .ok (.iaload, 1) := by decide +kernel
theorem dX7_layer_126 : decode cX7_layer 126 = .ok (.if_icmp .ge 30, 3) := by decide +kernel
theorem dX7_layer_129 : decode cX7_layer 129 = .ok (.aload_n 0, 1) := by decide +kernel
theorem dX7_layer_130 : decode cX7_layer 130 = .ok (.getfield 25, 3) := by decide +kernel
theorem dX7_layer_133 : decode cX7_layer 133 = .ok (.bipush 6, 2) := by decide +kernel
theorem dX7_layer_135 : decode cX7_layer 135 = .ok (.iload_n 1, 1) := by decide +kernel
theorem dX7_layer_136 : decode cX7_layer 136 = .ok (.imul, 1) := by decide +kernel
theorem dX7_layer_137 : decode cX7_layer 137 = .ok (.iload 4, 2) := by decide +kernel
theorem dX7_layer_139 : decode cX7_layer 139 = .ok (.iadd, 1) := by decide +kernel
theorem dX7_layer_140 : decode cX7_layer 140 = .ok (.aload_n 0, 1) := by decide +kernel
theorem dX7_layer_141 : decode cX7_layer 141 = .ok (.getfield 7, 3) := by decide +kernel
theorem dX7_layer_144 : decode cX7_layer 144 = .ok (.iload_n 3, 1) := by decide +kernel
theorem dX7_layer_145 : decode cX7_layer 145 = .ok (.iload 4, 2) := by decide +kernel
theorem dX7_layer_147 : decode cX7_layer 147 = .ok (.iadd, 1) := by decide +kernel
theorem dX7_layer_148 : decode cX7_layer 148 = .ok (.iaload, 1) := by decide +kernel
theorem dX7_layer_149 : decode cX7_layer 149 = .ok (.iastore, 1) := by decide +kernel
theorem dX7_layer_150 : decode cX7_layer 150 = .ok (.iinc 4 1, 3) := by decide +kernel
theorem dX7_layer_153 : decode cX7_layer 153 = .ok (.goto (-35), 3) := by decide +kernel
theorem dX7_layer_156 : decode cX7_layer 156 = .ok (.aload_n 0, 1) := by decide +kernel
theorem dX7_layer_157 : decode cX7_layer 157 = .ok (.iconst 0, 1) := by decide +kernel
theorem dX7_layer_158 : decode cX7_layer 158 = .ok (.putfield 67, 3) := by decide +kernel
theorem dX7_layer_161 : decode cX7_layer 161 = .ok (.aload_n 0, 1) := by decide +kernel
theorem dX7_layer_162 : decode cX7_layer 162 = .ok (.getfield 22, 3) := by decide +kernel
theorem dX7_layer_165 : decode cX7_layer 165 = .ok (.iload_n 1, 1) := by decide +kernel
theorem dX7_layer_166 : decode cX7_layer 166 = .ok (.iaload, 1) := by decide +kernel
theorem dX7_layer_167 : decode cX7_layer 167 = .ok (.ireturn, 1) := by decide +kernel
theorem dX7_about_0 : decode cX7_about 0 = .ok (.iload_n 1, 1) := by decide +kernel
theorem dX7_about_1 : decode cX7_about 1 = .ok (.invokestatic 81, 3) := by decide +kernel
theorem dX7_about_4 : decode cX7_about 4 = .ok (.ifCond .ne 5, 3) := by decide +kernel
theorem dX7_about_7 : decode cX7_about 7 = .ok (.iconst (-1), 1) := by decide +kernel
theorem dX7_about_8 : decode cX7_about 8 = .ok (.ireturn, 1) := by decide +kernel
theorem dX7_about_9 : decode cX7_about 9 = .ok (.iload_n 2, 1) := by decide +kernel
theorem dX7_about_10 : decode cX7_about 10 = .ok (.iconst 0, 1) := by decide +kernel
theorem dX7_about_11 : decode cX7_about 11 = .ok (.bipush 8, 2) := by decide +kernel
theorem dX7_about_13 : decode cX7_about 13 = .ok (.invokestatic 63, 3) := by decide +kernel
theorem dX7_about_16 : decode cX7_about 16 = .ok (.ifCond .ne 6, 3) := by decide +kernel
theorem dX7_about_19 : decode cX7_about 19 = .ok (.bipush (-2), 2) := by decide +kernel
theorem dX7_about_21 : decode cX7_about 21 = .ok (.ireturn, 1) := by decide +kernel
theorem dX7_about_22 : decode cX7_about 22 = .ok (.iload_n 2, 1) := by decide +kernel
theorem dX7_about_23 : decode cX7_about 23 = .ok (.iconst 3, 1) := by decide +kernel
theorem dX7_about_24 : decode cX7_about 24 = .ok (.if_icmp .ge 53, 3) := by decide +kernel
theorem dX7_about_27 : decode cX7_about 27 = .ok (.iload_n 2, 1) := by decide +kernel
theorem dX7_about_28 : decode cX7_about 28 = .ok (.ifCond .ne 28, 3) := by decide +kernel
theorem dX7_about_31 : decode cX7_about 31 = .ok (.aload_n 0, 1) := by decide +kernel
theorem dX7_about_32 : decode cX7_about 32 = .ok (.getfield 13, 3) := by decide +kernel
theorem dX7_about_35 : decode cX7_about 35 = .ok (.iload_n 1, 1) := by decide +kernel
theorem dX7_about_36 : decode cX7_about 36 = .ok (.iaload, 1) := by decide +kernel
theorem dX7_about_37 : decode cX7_about 37 = .ok (.bipush 45, 2) := by decide +kernel
theorem dX7_about_39 : decode cX7_about 39 = .ok (.if_icmp .ne 8, 3) := by decide +kernel
theorem dX7_about_42 : decode cX7_about 42 = .ok (.bipush (-6), 2) := by decide +kernel
theorem dX7_about_44 : decode cX7_about 44 = .ok (.goto 32, 3) := by decide +kernel
theorem dX7_about_47 : decode cX7_about 47 = .ok (.aload_n 0, 1) := by decide +kernel
theorem dX7_about_48 : decode cX7_about 48 = .ok (.getfield 13, 3) := by decide +kernel
theorem dX7_about_51 : decode cX7_about 51 = .ok (.iload_n 1, 1) := by decide +kernel
theorem dX7_about_52 : decode cX7_about 52 = .ok (.iaload, 1) := by decide +kernel
theorem dX7_about_53 : decode cX7_about 53 = .ok (.goto 23, 3) := by decide +kernel
theorem dX7_about_56 : decode cX7_about 56 = .ok (.iload_n 2, 1) := by decide +kernel
theorem dX7_about_57 : decode cX7_about 57 = .ok (.iconst 1, 1) := by decide +kernel
theorem dX7_about_58 : decode cX7_about 58 = .ok (.if_icmp .ne 12, 3) := by decide +kernel
theorem dX7_about_61 : decode cX7_about 61 = .ok (.aload_n 0, 1) := by decide +kernel
theorem dX7_about_62 : decode cX7_about 62 = .ok (.getfield 16, 3) := by decide +kernel
theorem dX7_about_65 : decode cX7_about 65 = .ok (.iload_n 1, 1) := by decide +kernel
theorem dX7_about_66 : decode cX7_about 66 = .ok (.iaload, 1) := by decide +kernel
theorem dX7_about_67 : decode cX7_about 67 = .ok (.goto 9, 3) := by decide +kernel
theorem dX7_about_70 : decode cX7_about 70 = .ok (.aload_n 0, 1) := by decide +kernel
theorem dX7_about_71 : decode cX7_about 71 = .ok (.getfield 19, 3) := by decide +kernel
theorem dX7_about_74 : decode cX7_about 74 = .ok (.iload_n 1, 1) := by decide +kernel
theorem dX7_about_75 : decode cX7_about 75 = .ok (.iaload, 1) := by decide +kernel
theorem dX7_about_76 : decode cX7_about 76 = .ok (.ireturn, 1) := by decide +kernel
theorem dX7_about_77 : decode cX7_about 77 = .ok (.iload_n 2, 1) := by decide +kernel
theorem dX7_about_78 : decode cX7_about 78 = .ok (.iconst 3, 1) := by decide +kernel
theorem dX7_about_79 : decode cX7_about 79 = .ok (.isub, 1) := by decide +kernel
theorem dX7_about_80 : decode cX7_about 80 = .ok (.aload_n 0, 1) := by decide +kernel
theorem dX7_about_81 : decode cX7_about 81 = .ok (.getfield 22, 3) := by decide +kernel
theorem dX7_about_84 : decode cX7_about 84 = .ok (.iload_n 1, 1) := by decide +kernel
theorem dX7_about_85 : decode cX7_about 85 = .ok (.iaload, 1) := by decide +kernel
theorem dX7_about_86 : decode cX7_about 86 = .ok (.if_icmp .ge 19, 3) := by decide +kernel
theorem dX7_about_89 : decode cX7_about 89 = .ok (.aload_n 0, 1) := by decide +kernel
theorem dX7_about_90 : decode cX7_about 90 = .ok (.getfield 25, 3) := by decide +kernel
theorem dX7_about_93 : decode cX7_about 93 = .ok (.bipush 6, 2) := by decide +kernel
theorem dX7_about_95 : decode cX7_about 95 = .ok (.iload_n 1, 1) := by decide +kernel
theorem dX7_about_96 : decode cX7_about 96 = .ok (.imul, 1) := by decide +kernel
theorem dX7_about_97 : decode cX7_about 97 = .ok (.iload_n 2, 1) := by decide +kernel
theorem dX7_about_98 : decode cX7_about 98 = .ok (.iadd, 1) := by decide +kernel
theorem dX7_about_99 : decode cX7_about 99 = .ok (.iconst 3, 1) := by decide +kernel
theorem dX7_about_100 : decode cX7_about 100 = .ok (.isub, 1) := by decide +kernel
theorem dX7_about_101 : decode cX7_about 101 = .ok (.iaload, 1) := by decide +kernel
theorem dX7_about_102 : decode cX7_about 102 = .ok (.goto 5, 3) := by decide +kernel
theorem dX7_about_105 : decode cX7_about 105 = .ok (.bipush (-6), 2) := by decide +kernel
theorem dX7_about_107 : decode cX7_about 107 = .ok (.ireturn, 1) := by decide +kernel
theorem dX7_chain_0 : decode cX7_chain 0 = .ok (.iload_n 1, 1) := by decide +kernel
theorem dX7_chain_1 : decode cX7_chain 1 = .ok (.invokestatic 81, 3) := by decide +kernel
theorem dX7_chain_4 : decode cX7_chain 4 = .ok (.ifCond .ne 5, 3) := by decide +kernel
theorem dX7_chain_7 : decode cX7_chain 7 = .ok (.iconst (-1), 1) := by decide +kernel
theorem dX7_chain_8 : decode cX7_chain 8 = .ok (.ireturn, 1) := by decide +kernel
theorem dX7_chain_9 : decode cX7_chain 9 = .ok (.aload_n 0, 1) := by decide +kernel
theorem dX7_chain_10 : decode cX7_chain 10 = .ok (.getfield 84, 3) := by decide +kernel
theorem dX7_chain_13 : decode cX7_chain 13 = .ok (.iconst 5, 1) := by decide +kernel
theorem dX7_chain_14 : decode cX7_chain 14 = .ok (.if_icmp .ne 6, 3) := by decide +kernel
theorem dX7_chain_17 : decode cX7_chain 17 = .ok (.bipush (-4), 2) := by decide +kernel
theorem dX7_chain_19 : decode cX7_chain 19 = .ok (.ireturn, 1) := by decide +kernel
theorem dX7_chain_20 : decode cX7_chain 20 = .ok (.aload_n 0, 1) := by decide +kernel
theorem dX7_chain_21 : decode cX7_chain 21 = .ok (.getfield 28, 3) := by decide +kernel
theorem dX7_chain_24 : decode cX7_chain 24 = .ok (.aload_n 0, 1) := by decide +kernel
theorem dX7_chain_25 : decode cX7_chain 25 = .ok (.getfield 84, 3) := by decide +kernel
theorem dX7_chain_28 : decode cX7_chain 28 = .ok (.iload_n 1, 1) := by decide +kernel
theorem dX7_chain_29 : decode cX7_chain 29 = .ok (.iastore, 1) := by decide +kernel
theorem dX7_chain_30 : decode cX7_chain 30 = .ok (.aload_n 0, 1) := by decide +kernel
theorem dX7_chain_31 : decode cX7_chain 31 = .ok (.dup, 1) := by decide +kernel
theorem dX7_chain_32 : decode cX7_chain 32 = .ok (.getfield 84, 3) := by decide +kernel
theorem dX7_chain_35 : decode cX7_chain 35 = .ok (.iconst 1, 1) := by decide +kernel
theorem dX7_chain_36 : decode cX7_chain 36 = .ok (.iadd, 1) := by decide +kernel
theorem dX7_chain_37 : decode cX7_chain 37 = .ok (.putfield 84, 3) := by decide +kernel
theorem dX7_chain_40 : decode cX7_chain 40 = .ok (.aload_n 0, 1) := by decide +kernel
theorem dX7_chain_41 : decode cX7_chain 41 = .ok (.getfield 84, 3) := by decide +kernel
theorem dX7_chain_44 : decode cX7_chain 44 = .ok (.ireturn, 1) := by decide +kernel
theorem dX7_unchain_0 : decode cX7_unchain 0 = .ok (.aload_n 0, 1) := by decide +kernel
theorem dX7_unchain_1 : decode cX7_unchain 1 = .ok (.getfield 84, 3) := by decide +kernel
theorem dX7_unchain_4 : decode cX7_unchain 4 = .ok (.ifCond .ne 6, 3) := by decide +kernel
theorem dX7_unchain_7 : decode cX7_unchain 7 = .ok (.bipush (-5), 2) := by decide +kernel
theorem dX7_unchain_9 : decode cX7_unchain 9 = .ok (.ireturn, 1) := by decide +kernel
theorem dX7_unchain_10 : decode cX7_unchain 10 = .ok (.aload_n 0, 1) := by decide +kernel
theorem dX7_unchain_11 : decode cX7_unchain 11 = .ok (.dup, 1) := by decide +kernel
theorem dX7_unchain_12 : decode cX7_unchain 12 = .ok (.getfield 84, 3) := by decide +kernel
theorem dX7_unchain_15 : decode cX7_unchain 15 = .ok (.iconst 1, 1) := by decide +kernel
theorem dX7_unchain_16 : decode cX7_unchain 16 = .ok (.isub, 1) := by decide +kernel
theorem dX7_unchain_17 : decode cX7_unchain 17 = .ok (.putfield 84, 3) := by decide +kernel
theorem dX7_unchain_20 : decode cX7_unchain 20 = .ok (.aload_n 0, 1) := by decide +kernel
theorem dX7_unchain_21 : decode cX7_unchain 21 = .ok (.getfield 84, 3) := by decide +kernel
theorem dX7_unchain_24 : decode cX7_unchain 24 = .ok (.ireturn, 1) := by decide +kernel
theorem dX7_text_0 : decode cX7_text 0 = .ok (.aload_n 0, 1) := by decide +kernel
theorem dX7_text_1 : decode cX7_text 1 = .ok (.getfield 67, 3) := by decide +kernel
theorem dX7_text_4 : decode cX7_text 4 = .ok (.iconst 1, 1) := by decide +kernel
theorem dX7_text_5 : decode cX7_text 5 = .ok (.bipush 12, 2) := by decide +kernel
theorem dX7_text_7 : decode cX7_text 7 = .ok (.invokestatic 63, 3) := by decide +kernel
theorem dX7_text_10 : decode cX7_text 10 = .ok (.ifCond .ne 6, 3) := by decide +kernel
theorem dX7_text_13 : decode cX7_text 13 = .ok (.bipush (-5), 2) := by decide +kernel
theorem dX7_text_15 : decode cX7_text 15 = .ok (.ireturn, 1) := by decide +kernel
theorem dX7_text_16 : decode cX7_text 16 = .ok (.aload_n 0, 1) := by decide +kernel
theorem dX7_text_17 : decode cX7_text 17 = .ok (.aload_n 0, 1) := by decide +kernel
theorem dX7_text_18 : decode cX7_text 18 = .ok (.getfield 67, 3) := by decide +kernel
theorem dX7_text_21 : decode cX7_text 21 = .ok (.putfield 31, 3) := by decide +kernel
theorem dX7_text_24 : decode cX7_text 24 = .ok (.iconst 0, 1) := by decide +kernel
theorem dX7_text_25 : decode cX7_text 25 = .ok (.istore_n 1, 1) := by decide +kernel
theorem dX7_text_26 : decode cX7_text 26 = .ok (.iload_n 1, 1) := by decide +kernel
theorem dX7_text_27 : decode cX7_text 27 = .ok (.aload_n 0, 1) := by decide +kernel
theorem dX7_text_28 : decode cX7_text 28 = .ok (.getfield 67, 3) := by decide +kernel
theorem dX7_text_31 : decode cX7_text 31 = .ok (.if_icmp .ge 21, 3) := by decide +kernel
theorem dX7_text_34 : decode cX7_text 34 = .ok (.aload_n 0, 1) := by decide +kernel
theorem dX7_text_35 : decode cX7_text 35 = .ok (.getfield 35, 3) := by decide +kernel
theorem dX7_text_38 : decode cX7_text 38 = .ok (.iload_n 1, 1) := by decide +kernel
theorem dX7_text_39 : decode cX7_text 39 = .ok (.aload_n 0, 1) := by decide +kernel
theorem dX7_text_40 : decode cX7_text 40 = .ok (.getfield 7, 3) := by decide +kernel
theorem dX7_text_43 : decode cX7_text 43 = .ok (.iload_n 1, 1) := by decide +kernel
theorem dX7_text_44 : decode cX7_text 44 = .ok (.iaload, 1) := by decide +kernel
theorem dX7_text_45 : decode cX7_text 45 = .ok (.iastore, 1) := by decide +kernel
theorem dX7_text_46 : decode cX7_text 46 = .ok (.iinc 1 1, 3) := by decide +kernel
theorem dX7_text_49 : decode cX7_text 49 = .ok (.goto (-23), 3) := by decide +kernel
theorem dX7_text_52 : decode cX7_text 52 = .ok (.aload_n 0, 1) := by decide +kernel
theorem dX7_text_53 : decode cX7_text 53 = .ok (.iconst 0, 1) := by decide +kernel
theorem dX7_text_54 : decode cX7_text 54 = .ok (.putfield 67, 3) := by decide +kernel
theorem dX7_text_57 : decode cX7_text 57 = .ok (.aload_n 0, 1) := by decide +kernel
theorem dX7_text_58 : decode cX7_text 58 = .ok (.getfield 31, 3) := by decide +kernel
theorem dX7_text_61 : decode cX7_text 61 = .ok (.ireturn, 1) := by decide +kernel
theorem dX7_hasMark_0 : decode cX7_hasMark 0 = .ok (.aload_n 0, 1) := by decide +kernel
theorem dX7_hasMark_1 : decode cX7_hasMark 1 = .ok (.getfield 13, 3) := by decide +kernel
theorem dX7_hasMark_4 : decode cX7_hasMark 4 = .ok (.iload_n 1, 1) := by decide +kernel
theorem dX7_hasMark_5 : decode cX7_hasMark 5 = .ok (.iaload, 1) := by decide +kernel
theorem dX7_hasMark_6 : decode cX7_hasMark 6 = .ok (.bipush 45, 2) := by decide +kernel
theorem dX7_hasMark_8 : decode cX7_hasMark 8 = .ok (.if_icmp .eq 7, 3) := by decide +kernel
theorem dX7_hasMark_11 : decode cX7_hasMark 11 = .ok (.iconst 1, 1) := by decide +kernel
theorem dX7_hasMark_12 : decode cX7_hasMark 12 = .ok (.goto 4, 3) := by decide +kernel
theorem dX7_hasMark_15 : decode cX7_hasMark 15 = .ok (.iconst 0, 1) := by decide +kernel
theorem dX7_hasMark_16 : decode cX7_hasMark 16 = .ok (.ireturn, 1) := by decide +kernel
theorem dX7_isHeld_0 : decode cX7_isHeld 0 = .ok (.iconst 0, 1) := by decide +kernel
theorem dX7_isHeld_1 : decode cX7_isHeld 1 = .ok (.istore_n 3, 1) := by decide +kernel
theorem dX7_isHeld_2 : decode cX7_isHeld 2 = .ok (.iconst 0, 1) := by decide +kernel
theorem dX7_isHeld_3 : decode cX7_isHeld 3 = .ok (.istore 4, 2) := by decide +kernel
theorem dX7_isHeld_5 : decode cX7_isHeld 5 = .ok (.iload 4, 2) := by decide +kernel
theorem dX7_isHeld_7 : decode cX7_isHeld 7 = .ok (.aload_n 0, 1) := by decide +kernel
theorem dX7_isHeld_8 : decode cX7_isHeld 8 = .ok (.getfield 22, 3) := by decide +kernel
theorem dX7_isHeld_11 : decode cX7_isHeld 11 = .ok (.iload_n 1, 1) := by decide +kernel
theorem dX7_isHeld_12 : decode cX7_isHeld 12 = .ok (.iaload, 1) := by decide +kernel
theorem dX7_isHeld_13 : decode cX7_isHeld 13 = .ok (.if_icmp .ge 35, 3) := by decide +kernel
theorem dX7_isHeld_16 : decode cX7_isHeld 16 = .ok (.iload_n 3, 1) := by decide +kernel
theorem dX7_isHeld_17 : decode cX7_isHeld 17 = .ok (.ifCond .ne 19, 3) := by decide +kernel
theorem dX7_isHeld_20 : decode cX7_isHeld 20 = .ok (.aload_n 0, 1) := by decide +kernel
theorem dX7_isHeld_21 : decode cX7_isHeld 21 = .ok (.getfield 25, 3) := by decide +kernel
theorem dX7_isHeld_24 : decode cX7_isHeld 24 = .ok (.bipush 6, 2) := by decide +kernel
theorem dX7_isHeld_26 : decode cX7_isHeld 26 = .ok (.iload_n 1, 1) := by decide +kernel
theorem dX7_isHeld_27 : decode cX7_isHeld 27 = .ok (.imul, 1) := by decide +kernel
theorem dX7_isHeld_28 : decode cX7_isHeld 28 = .ok (.iload 4, 2) := by decide +kernel
theorem dX7_isHeld_30 : decode cX7_isHeld 30 = .ok (.iadd, 1) := by decide +kernel
theorem dX7_isHeld_31 : decode cX7_isHeld 31 = .ok (.iaload, 1) := by decide +kernel
theorem dX7_isHeld_32 : decode cX7_isHeld 32 = .ok (.iload_n 2, 1) := by decide +kernel
theorem dX7_isHeld_33 : decode cX7_isHeld 33 = .ok (.if_icmp .ne 7, 3) := by decide +kernel
theorem dX7_isHeld_36 : decode cX7_isHeld 36 = .ok (.iconst 1, 1) := by decide +kernel
theorem dX7_isHeld_37 : decode cX7_isHeld 37 = .ok (.goto 4, 3) := by decide +kernel
theorem dX7_isHeld_40 : decode cX7_isHeld 40 = .ok (.iconst 0, 1) := by decide +kernel
theorem dX7_isHeld_41 : decode cX7_isHeld 41 = .ok (.istore_n 3, 1) := by decide +kernel
theorem dX7_isHeld_42 : decode cX7_isHeld 42 = .ok (.iinc 4 1, 3) := by decide +kernel
theorem dX7_isHeld_45 : decode cX7_isHeld 45 = .ok (.goto (-40), 3) := by decide +kernel
theorem dX7_isHeld_48 : decode cX7_isHeld 48 = .ok (.iload_n 3, 1) := by decide +kernel
theorem dX7_isHeld_49 : decode cX7_isHeld 49 = .ok (.ireturn, 1) := by decide +kernel
theorem dX7_isMasked_0 : decode cX7_isMasked 0 = .ok (.aload_n 0, 1) := by decide +kernel
theorem dX7_isMasked_1 : decode cX7_isMasked 1 = .ok (.iload_n 1, 1) := by decide +kernel
theorem dX7_isMasked_2 : decode cX7_isMasked 2 = .ok (.invokevirtual 87, 3) := by decide +kernel
theorem dX7_isMasked_5 : decode cX7_isMasked 5 = .ok (.ifCond .eq 13, 3) := by decide +kernel
theorem dX7_isMasked_8 : decode cX7_isMasked 8 = .ok (.iload_n 2, 1) := by decide +kernel
theorem dX7_isMasked_9 : decode cX7_isMasked 9 = .ok (.aload_n 0, 1) := by decide +kernel
theorem dX7_isMasked_10 : decode cX7_isMasked 10 = .ok (.getfield 13, 3) := by decide +kernel
theorem dX7_isMasked_13 : decode cX7_isMasked 13 = .ok (.iload_n 1, 1) := by decide +kernel
theorem dX7_isMasked_14 : decode cX7_isMasked 14 = .ok (.iaload, 1) := by decide +kernel
theorem dX7_isMasked_15 : decode cX7_isMasked 15 = .ok (.if_icmp .eq 22, 3) := by decide +kernel
theorem dX7_isMasked_18 : decode cX7_isMasked 18 = .ok (.iload_n 2, 1) := by decide +kernel
theorem dX7_isMasked_19 : decode cX7_isMasked 19 = .ok (.aload_n 0, 1) := by decide +kernel
theorem dX7_isMasked_20 : decode cX7_isMasked 20 = .ok (.getfield 19, 3) := by decide +kernel
theorem dX7_isMasked_23 : decode cX7_isMasked 23 = .ok (.iload_n 1, 1) := by decide +kernel
theorem dX7_isMasked_24 : decode cX7_isMasked 24 = .ok (.iaload, 1) := by decide +kernel
theorem dX7_isMasked_25 : decode cX7_isMasked 25 = .ok (.if_icmp .eq 12, 3) := by decide +kernel
theorem dX7_isMasked_28 : decode cX7_isMasked 28 = .ok (.aload_n 0, 1) := by decide +kernel
theorem dX7_isMasked_29 : decode cX7_isMasked 29 = .ok (.iload_n 1, 1) := by decide +kernel
theorem dX7_isMasked_30 : decode cX7_isMasked 30 = .ok (.iload_n 2, 1) := by decide +kernel
theorem dX7_isMasked_31 : decode cX7_isMasked 31 = .ok (.invokevirtual 90, 3) := by decide +kernel
theorem dX7_isMasked_34 : decode cX7_isMasked 34 = .ok (.ifCond .eq 7, 3) := by decide +kernel
theorem dX7_isMasked_37 : decode cX7_isMasked 37 = .ok (.iconst 1, 1) := by decide +kernel
theorem dX7_isMasked_38 : decode cX7_isMasked 38 = .ok (.goto 4, 3) := by decide +kernel
theorem dX7_isMasked_41 : decode cX7_isMasked 41 = .ok (.iconst 0, 1) := by decide +kernel
theorem dX7_isMasked_42 : decode cX7_isMasked 42 = .ok (.ireturn, 1) := by decide +kernel
theorem dX7_digit_0 : decode cX7_digit 0 = .ok (.iload_n 0, 1) := by decide +kernel
theorem dX7_digit_1 : decode cX7_digit 1 = .ok (.bipush 10, 2) := by decide +kernel
theorem dX7_digit_3 : decode cX7_digit 3 = .ok (.if_icmp .ge 10, 3) := by decide +kernel
theorem dX7_digit_6 : decode cX7_digit 6 = .ok (.bipush 48, 2) := by decide +kernel
theorem dX7_digit_8 : decode cX7_digit 8 = .ok (.iload_n 0, 1) := by decide +kernel
theorem dX7_digit_9 : decode cX7_digit 9 = .ok (.iadd, 1) := by decide +kernel
theorem dX7_digit_10 : decode cX7_digit 10 = .ok (.goto 10, 3) := by decide +kernel
theorem dX7_digit_13 : decode cX7_digit 13 = .ok (.bipush 97, 2) := by decide +kernel
theorem dX7_digit_15 : decode cX7_digit 15 = .ok (.iload_n 0, 1) := by decide +kernel
theorem dX7_digit_16 : decode cX7_digit 16 = .ok (.iadd, 1) := by decide +kernel
theorem dX7_digit_17 : decode cX7_digit 17 = .ok (.bipush 10, 2) := by decide +kernel
theorem dX7_digit_19 : decode cX7_digit 19 = .ok (.isub, 1) := by decide +kernel
theorem dX7_digit_20 : decode cX7_digit 20 = .ok (.ireturn, 1) := by decide +kernel
theorem dX7_put_0 : decode cX7_put 0 = .ok (.iconst 0, 1) := by decide +kernel
theorem dX7_put_1 : decode cX7_put 1 = .ok (.istore_n 3, 1) := by decide +kernel
theorem dX7_put_2 : decode cX7_put 2 = .ok (.aload_n 0, 1) := by decide +kernel
theorem dX7_put_3 : decode cX7_put 3 = .ok (.iload_n 1, 1) := by decide +kernel
theorem dX7_put_4 : decode cX7_put 4 = .ok (.invokevirtual 87, 3) := by decide +kernel
theorem dX7_put_7 : decode cX7_put 7 = .ok (.ifCond .eq 18, 3) := by decide +kernel
theorem dX7_put_10 : decode cX7_put 10 = .ok (.aload_n 0, 1) := by decide +kernel
theorem dX7_put_11 : decode cX7_put 11 = .ok (.getfield 41, 3) := by decide +kernel
theorem dX7_put_14 : decode cX7_put 14 = .ok (.iload_n 3, 1) := by decide +kernel
theorem dX7_put_15 : decode cX7_put 15 = .ok (.aload_n 0, 1) := by decide +kernel
theorem dX7_put_16 : decode cX7_put 16 = .ok (.getfield 13, 3) := by decide +kernel
theorem dX7_put_19 : decode cX7_put 19 = .ok (.iload_n 1, 1) := by decide +kernel
theorem dX7_put_20 : decode cX7_put 20 = .ok (.iaload, 1) := by decide +kernel
theorem dX7_put_21 : decode cX7_put 21 = .ok (.iastore, 1) := by decide +kernel
theorem dX7_put_22 : decode cX7_put 22 = .ok (.iinc 3 1, 3) := by decide +kernel
theorem dX7_put_25 : decode cX7_put 25 = .ok (.iconst 0, 1) := by decide +kernel
theorem dX7_put_26 : decode cX7_put 26 = .ok (.istore 4, 2) := by decide +kernel
theorem dX7_put_28 : decode cX7_put 28 = .ok (.iload 4, 2) := by decide +kernel
theorem dX7_put_30 : decode cX7_put 30 = .ok (.aload_n 0, 1) := by decide +kernel
theorem dX7_put_31 : decode cX7_put 31 = .ok (.getfield 94, 3) := by decide +kernel
theorem dX7_put_34 : decode cX7_put 34 = .ok (.if_icmp .ge 153, 3) := by decide +kernel
theorem dX7_put_37 : decode cX7_put 37 = .ok (.aload_n 0, 1) := by decide +kernel
theorem dX7_put_38 : decode cX7_put 38 = .ok (.getfield 38, 3) := by decide +kernel
theorem dX7_put_41 : decode cX7_put 41 = .ok (.iload 4, 2) := by decide +kernel
theorem dX7_put_43 : decode cX7_put 43 = .ok (.iaload, 1) := by decide +kernel
theorem dX7_put_44 : decode cX7_put 44 = .ok (.istore 5, 2) := by decide +kernel
theorem dX7_put_46 : decode cX7_put 46 = .ok (.iload_n 2, 1) := by decide +kernel
theorem dX7_put_47 : decode cX7_put 47 = .ok (.ifCond .ne 17, 3) := by decide +kernel
theorem dX7_put_50 : decode cX7_put 50 = .ok (.aload_n 0, 1) := by decide +kernel
theorem dX7_put_51 : decode cX7_put 51 = .ok (.iload_n 1, 1) := by decide +kernel
theorem dX7_put_52 : decode cX7_put 52 = .ok (.iload 5, 2) := by decide +kernel
theorem dX7_put_54 : decode cX7_put 54 = .ok (.invokevirtual 97, 3) := by decide +kernel
theorem dX7_put_57 : decode cX7_put 57 = .ok (.ifCond .eq 7, 3) := by decide +kernel
theorem dX7_put_60 : decode cX7_put 60 = .ok (.iconst 1, 1) := by decide +kernel
theorem dX7_put_61 : decode cX7_put 61 = .ok (.goto 4, 3) := by decide +kernel
theorem dX7_put_64 : decode cX7_put 64 = .ok (.iconst 0, 1) := by decide +kernel
theorem dX7_put_65 : decode cX7_put 65 = .ok (.istore 6, 2) := by decide +kernel
theorem dX7_put_67 : decode cX7_put 67 = .ok (.iload 6, 2) := by decide +kernel
theorem dX7_put_69 : decode cX7_put 69 = .ok (.ifCond .eq 15, 3) := by decide +kernel
theorem dX7_put_72 : decode cX7_put 72 = .ok (.aload_n 0, 1) := by decide +kernel
theorem dX7_put_73 : decode cX7_put 73 = .ok (.getfield 16, 3) := by decide +kernel
theorem dX7_put_76 : decode cX7_put 76 = .ok (.iload_n 1, 1) := by decide +kernel
theorem dX7_put_77 : decode cX7_put 77 = .ok (.iaload, 1) := by decide +kernel
theorem dX7_put_78 : decode cX7_put 78 = .ok (.ifCond .ne 6, 3) := by decide +kernel
theorem dX7_put_81 : decode cX7_put 81 = .ok (.bipush (-5), 2) := by decide +kernel
theorem dX7_put_83 : decode cX7_put 83 = .ok (.ireturn, 1) := by decide +kernel
theorem dX7_put_84 : decode cX7_put 84 = .ok (.iload 6, 2) := by decide +kernel
theorem dX7_put_86 : decode cX7_put 86 = .ok (.ifCond .eq 33, 3) := by decide +kernel
theorem dX7_put_89 : decode cX7_put 89 = .ok (.aload_n 0, 1) := by decide +kernel
theorem dX7_put_90 : decode cX7_put 90 = .ok (.getfield 41, 3) := by decide +kernel
theorem dX7_put_93 : decode cX7_put 93 = .ok (.iload_n 3, 1) := by decide +kernel
theorem dX7_put_94 : decode cX7_put 94 = .ok (.aload_n 0, 1) := by decide +kernel
theorem dX7_put_95 : decode cX7_put 95 = .ok (.getfield 16, 3) := by decide +kernel
theorem dX7_put_98 : decode cX7_put 98 = .ok (.iload_n 1, 1) := by decide +kernel
theorem dX7_put_99 : decode cX7_put 99 = .ok (.iaload, 1) := by decide +kernel
theorem dX7_put_100 : decode cX7_put 100 = .ok (.iconst 2, 1) := by decide +kernel
theorem dX7_put_101 : decode cX7_put 101 = .ok (.if_icmp .ne 8, 3) := by decide +kernel
theorem dX7_put_104 : decode cX7_put 104 = .ok (.iload 5, 2) := by decide +kernel
theorem dX7_put_106 : decode cX7_put 106 = .ok (.goto 9, 3) := by decide +kernel
theorem dX7_put_109 : decode cX7_put 109 = .ok (.aload_n 0, 1) := by decide +kernel
theorem dX7_put_110 : decode cX7_put 110 = .ok (.getfield 19, 3) := by decide +kernel
theorem dX7_put_113 : decode cX7_put 113 = .ok (.iload_n 1, 1) := by decide +kernel
theorem dX7_put_114 : decode cX7_put 114 = .ok (.iaload, 1) := by decide +kernel
theorem dX7_put_115 : decode cX7_put 115 = .ok (.iastore, 1) := by decide +kernel
theorem dX7_put_116 : decode cX7_put 116 = .ok (.iinc 3 1, 3) := by decide +kernel
theorem dX7_put_119 : decode cX7_put 119 = .ok (.iload 6, 2) := by decide +kernel
theorem dX7_put_121 : decode cX7_put 121 = .ok (.ifCond .eq 49, 3) := by decide +kernel
theorem dX7_put_124 : decode cX7_put 124 = .ok (.aload_n 0, 1) := by decide +kernel
theorem dX7_put_125 : decode cX7_put 125 = .ok (.getfield 16, 3) := by decide +kernel
theorem dX7_put_128 : decode cX7_put 128 = .ok (.iload_n 1, 1) := by decide +kernel
theorem dX7_put_129 : decode cX7_put 129 = .ok (.iaload, 1) := by decide +kernel
theorem dX7_put_130 : decode cX7_put 130 = .ok (.iconst 3, 1) := by decide +kernel
theorem dX7_put_131 : decode cX7_put 131 = .ok (.if_icmp .ne 39, 3) := by decide +kernel
theorem dX7_put_134 : decode cX7_put 134 = .ok (.aload_n 0, 1) := by decide +kernel
theorem dX7_put_135 : decode cX7_put 135 = .ok (.getfield 41, 3) := by decide +kernel
theorem dX7_put_138 : decode cX7_put 138 = .ok (.iload_n 3, 1) := by decide +kernel
theorem dX7_put_139 : decode cX7_put 139 = .ok (.iload 5, 2) := by decide +kernel
theorem dX7_put_141 : decode cX7_put 141 = .ok (.bipush 16, 2) := by decide +kernel
theorem dX7_put_143 : decode cX7_put 143 = .ok (.idiv, 1) := by decide +kernel
theorem dX7_put_144 : decode cX7_put 144 = .ok (.invokestatic 100, 3) := by decide +kernel
theorem dX7_put_147 : decode cX7_put 147 = .ok (.iastore, 1) := by decide +kernel
theorem dX7_put_148 : decode cX7_put 148 = .ok (.aload_n 0, 1) := by decide +kernel
theorem dX7_put_149 : decode cX7_put 149 = .ok (.getfield 41, 3) := by decide +kernel
theorem dX7_put_152 : decode cX7_put 152 = .ok (.iload_n 3, 1) := by decide +kernel
theorem dX7_put_153 : decode cX7_put 153 = .ok (.iconst 1, 1) := by decide +kernel
theorem dX7_put_154 : decode cX7_put 154 = .ok (.iadd, 1) := by decide +kernel
theorem dX7_put_155 : decode cX7_put 155 = .ok (.iload 5, 2) := by decide +kernel
theorem dX7_put_157 : decode cX7_put 157 = .ok (.bipush 16, 2) := by decide +kernel
theorem dX7_put_159 : decode cX7_put 159 = .ok (.irem, 1) := by decide +kernel
theorem dX7_put_160 : decode cX7_put 160 = .ok (.invokestatic 100, 3) := by decide +kernel
theorem dX7_put_163 : decode cX7_put 163 = .ok (.iastore, 1) := by decide +kernel
theorem dX7_put_164 : decode cX7_put 164 = .ok (.iinc 3 2, 3) := by decide +kernel
theorem dX7_put_167 : decode cX7_put 167 = .ok (.goto 14, 3) := by decide +kernel
theorem dX7_put_170 : decode cX7_put 170 = .ok (.aload_n 0, 1) := by decide +kernel
theorem dX7_put_171 : decode cX7_put 171 = .ok (.getfield 41, 3) := by decide +kernel
theorem dX7_put_174 : decode cX7_put 174 = .ok (.iload_n 3, 1) := by decide +kernel
theorem dX7_put_175 : decode cX7_put 175 = .ok (.iload 5, 2) := by decide +kernel
theorem dX7_put_177 : decode cX7_put 177 = .ok (.iastore, 1) := by decide +kernel
theorem dX7_put_178 : decode cX7_put 178 = .ok (.iinc 3 1, 3) := by decide +kernel
theorem dX7_put_181 : decode cX7_put 181 = .ok (.iinc 4 1, 3) := by decide +kernel
theorem dX7_put_184 : decode cX7_put 184 = .ok (.goto (-156), 3) := by decide +kernel
theorem dX7_put_187 : decode cX7_put 187 = .ok (.aload_n 0, 1) := by decide +kernel
theorem dX7_put_188 : decode cX7_put 188 = .ok (.iload_n 1, 1) := by decide +kernel
theorem dX7_put_189 : decode cX7_put 189 = .ok (.invokevirtual 87, 3) := by decide +kernel
theorem dX7_put_192 : decode cX7_put 192 = .ok (.ifCond .eq 18, 3) := by decide +kernel
theorem dX7_put_195 : decode cX7_put 195 = .ok (.aload_n 0, 1) := by decide +kernel
theorem dX7_put_196 : decode cX7_put 196 = .ok (.getfield 41, 3) := by decide +kernel
theorem dX7_put_199 : decode cX7_put 199 = .ok (.iload_n 3, 1) := by decide +kernel
theorem dX7_put_200 : decode cX7_put 200 = .ok (.aload_n 0, 1) := by decide +kernel
theorem dX7_put_201 : decode cX7_put 201 = .ok (.getfield 13, 3) := by decide +kernel
theorem dX7_put_204 : decode cX7_put 204 = .ok (.iload_n 1, 1) := by decide +kernel
theorem dX7_put_205 : decode cX7_put 205 = .ok (.iaload, 1) := by decide +kernel
theorem dX7_put_206 : decode cX7_put 206 = .ok (.iastore, 1) := by decide +kernel
theorem dX7_put_207 : decode cX7_put 207 = .ok (.iinc 3 1, 3) := by decide +kernel
theorem dX7_put_210 : decode cX7_put 210 = .ok (.iload_n 3, 1) := by decide +kernel
theorem dX7_put_211 : decode cX7_put 211 = .ok (.sipush 400, 3) := by decide +kernel
theorem dX7_put_214 : decode cX7_put 214 = .ok (.if_icmp .le 6, 3) := by decide +kernel
theorem dX7_put_217 : decode cX7_put 217 = .ok (.bipush (-7), 2) := by decide +kernel
theorem dX7_put_219 : decode cX7_put 219 = .ok (.ireturn, 1) := by decide +kernel
theorem dX7_put_220 : decode cX7_put 220 = .ok (.iconst 0, 1) := by decide +kernel
theorem dX7_put_221 : decode cX7_put 221 = .ok (.istore 4, 2) := by decide +kernel
theorem dX7_put_223 : decode cX7_put 223 = .ok (.iload 4, 2) := by decide +kernel
theorem dX7_put_225 : decode cX7_put 225 = .ok (.iload_n 3, 1) := by decide +kernel
theorem dX7_put_226 : decode cX7_put 226 = .ok (.if_icmp .ge 23, 3) := by decide +kernel
theorem dX7_put_229 : decode cX7_put 229 = .ok (.aload_n 0, 1) := by decide +kernel
theorem dX7_put_230 : decode cX7_put 230 = .ok (.getfield 38, 3) := by decide +kernel
theorem dX7_put_233 : decode cX7_put 233 = .ok (.iload 4, 2) := by decide +kernel
theorem dX7_put_235 : decode cX7_put 235 = .ok (.aload_n 0, 1) := by decide +kernel
theorem dX7_put_236 : decode cX7_put 236 = .ok (.getfield 41, 3) := by decide +kernel
theorem dX7_put_239 : decode cX7_put 239 = .ok (.iload 4, 2) := by decide +kernel
theorem dX7_put_241 : decode cX7_put 241 = .ok (.iaload, 1) := by decide +kernel
theorem dX7_put_242 : decode cX7_put 242 = .ok (.iastore, 1) := by decide +kernel
theorem dX7_put_243 : decode cX7_put 243 = .ok (.iinc 4 1, 3) := by decide +kernel
theorem dX7_put_246 : decode cX7_put 246 = .ok (.goto (-23), 3) := by decide +kernel
theorem dX7_put_249 : decode cX7_put 249 = .ok (.aload_n 0, 1) := by decide +kernel
theorem dX7_put_250 : decode cX7_put 250 = .ok (.iload_n 3, 1) := by decide +kernel
theorem dX7_put_251 : decode cX7_put 251 = .ok (.putfield 94, 3) := by decide +kernel
theorem dX7_put_254 : decode cX7_put 254 = .ok (.iconst 0, 1) := by decide +kernel
theorem dX7_put_255 : decode cX7_put 255 = .ok (.ireturn, 1) := by decide +kernel
theorem dX7_layText_0 : decode cX7_layText 0 = .ok (.aload_n 0, 1) := by decide +kernel
theorem dX7_layText_1 : decode cX7_layText 1 = .ok (.aload_n 0, 1) := by decide +kernel
theorem dX7_layText_2 : decode cX7_layText 2 = .ok (.getfield 31, 3) := by decide +kernel
theorem dX7_layText_5 : decode cX7_layText 5 = .ok (.putfield 94, 3) := by decide +kernel
theorem dX7_layText_8 : decode cX7_layText 8 = .ok (.iconst 0, 1) := by decide +kernel
theorem dX7_layText_9 : decode cX7_layText 9 = .ok (.istore_n 1, 1) := by decide +kernel
theorem dX7_layText_10 : decode cX7_layText 10 = .ok (.iload_n 1, 1) := by decide +kernel
theorem dX7_layText_11 : decode cX7_layText 11 = .ok (.aload_n 0, 1) := by decide +kernel
theorem dX7_layText_12 : decode cX7_layText 12 = .ok (.getfield 31, 3) := by decide +kernel
theorem dX7_layText_15 : decode cX7_layText 15 = .ok (.if_icmp .ge 21, 3) := by decide +kernel
theorem dX7_layText_18 : decode cX7_layText 18 = .ok (.aload_n 0, 1) := by decide +kernel
theorem dX7_layText_19 : decode cX7_layText 19 = .ok (.getfield 38, 3) := by decide +kernel
theorem dX7_layText_22 : decode cX7_layText 22 = .ok (.iload_n 1, 1) := by decide +kernel
theorem dX7_layText_23 : decode cX7_layText 23 = .ok (.aload_n 0, 1) := by decide +kernel
theorem dX7_layText_24 : decode cX7_layText 24 = .ok (.getfield 35, 3) := by decide +kernel
theorem dX7_layText_27 : decode cX7_layText 27 = .ok (.iload_n 1, 1) := by decide +kernel
theorem dX7_layText_28 : decode cX7_layText 28 = .ok (.iaload, 1) := by decide +kernel
theorem dX7_layText_29 : decode cX7_layText 29 = .ok (.iastore, 1) := by decide +kernel
theorem dX7_layText_30 : decode cX7_layText 30 = .ok (.iinc 1 1, 3) := by decide +kernel
theorem dX7_layText_33 : decode cX7_layText 33 = .ok (.goto (-23), 3) := by decide +kernel
theorem dX7_layText_36 : decode cX7_layText 36 = .ok (.return_, 1) := by decide +kernel
theorem dX7_goThrough_0 : decode cX7_goThrough 0 = .ok (.iconst 0, 1) := by decide +kernel
theorem dX7_goThrough_1 : decode cX7_goThrough 1 = .ok (.istore_n 3, 1) := by decide +kernel
theorem dX7_goThrough_2 : decode cX7_goThrough 2 = .ok (.iload_n 3, 1) := by decide +kernel
theorem dX7_goThrough_3 : decode cX7_goThrough 3 = .ok (.iload_n 1, 1) := by decide +kernel
theorem dX7_goThrough_4 : decode cX7_goThrough 4 = .ok (.if_icmp .ge 44, 3) := by decide +kernel
theorem dX7_goThrough_7 : decode cX7_goThrough 7 = .ok (.aload_n 0, 1) := by decide +kernel
theorem dX7_goThrough_8 : decode cX7_goThrough 8 = .ok (.iload_n 3, 1) := by decide +kernel
theorem dX7_goThrough_9 : decode cX7_goThrough 9 = .ok (.putfield 104, 3) := by decide +kernel
theorem dX7_goThrough_12 : decode cX7_goThrough 12 = .ok (.aload_n 0, 1) := by decide +kernel
theorem dX7_goThrough_13 : decode cX7_goThrough 13 = .ok (.aload_n 0, 1) := by decide +kernel
theorem dX7_goThrough_14 : decode cX7_goThrough 14 = .ok (.getfield 28, 3) := by decide +kernel
theorem dX7_goThrough_17 : decode cX7_goThrough 17 = .ok (.iload_n 3, 1) := by decide +kernel
theorem dX7_goThrough_18 : decode cX7_goThrough 18 = .ok (.iaload, 1) := by decide +kernel
theorem dX7_goThrough_19 : decode cX7_goThrough 19 = .ok (.iload_n 3, 1) := by decide +kernel
theorem dX7_goThrough_20 : decode cX7_goThrough 20 = .ok (.iload_n 2, 1) := by decide +kernel
theorem dX7_goThrough_21 : decode cX7_goThrough 21 = .ok (.if_icmp .ne 7, 3) := by decide +kernel
theorem dX7_goThrough_24 : decode cX7_goThrough 24 = .ok (.iconst 1, 1) := by decide +kernel
theorem dX7_goThrough_25 : decode cX7_goThrough 25 = .ok (.goto 4, 3) := by decide +kernel
theorem dX7_goThrough_28 : decode cX7_goThrough 28 = .ok (.iconst 0, 1) := by decide +kernel
theorem dX7_goThrough_29 : decode cX7_goThrough 29 = .ok (.invokevirtual 107, 3) := by decide +kernel
theorem dX7_goThrough_32 : decode cX7_goThrough 32 = .ok (.istore 4, 2) := by decide +kernel
theorem dX7_goThrough_34 : decode cX7_goThrough 34 = .ok (.iload 4, 2) := by decide +kernel
theorem dX7_goThrough_36 : decode cX7_goThrough 36 = .ok (.ifCond .ge 6, 3) := by decide +kernel
theorem dX7_goThrough_39 : decode cX7_goThrough 39 = .ok (.iload 4, 2) := by decide +kernel
theorem dX7_goThrough_41 : decode cX7_goThrough 41 = .ok (.ireturn, 1) := by decide +kernel
theorem dX7_goThrough_42 : decode cX7_goThrough 42 = .ok (.iinc 3 1, 3) := by decide +kernel
theorem dX7_goThrough_45 : decode cX7_goThrough 45 = .ok (.goto (-43), 3) := by decide +kernel
theorem dX7_goThrough_48 : decode cX7_goThrough 48 = .ok (.iconst 0, 1) := by decide +kernel
theorem dX7_goThrough_49 : decode cX7_goThrough 49 = .ok (.ireturn, 1) := by decide +kernel
theorem dX7_behind_0 : decode cX7_behind 0 = .ok (.iload_n 1, 1) := by decide +kernel
theorem dX7_behind_1 : decode cX7_behind 1 = .ok (.iconst 0, 1) := by decide +kernel
theorem dX7_behind_2 : decode cX7_behind 2 = .ok (.aload_n 0, 1) := by decide +kernel
theorem dX7_behind_3 : decode cX7_behind 3 = .ok (.getfield 84, 3) := by decide +kernel
theorem dX7_behind_6 : decode cX7_behind 6 = .ok (.invokestatic 63, 3) := by decide +kernel
theorem dX7_behind_9 : decode cX7_behind 9 = .ok (.ifCond .ne 6, 3) := by decide +kernel
theorem dX7_behind_12 : decode cX7_behind 12 = .ok (.bipush (-2), 2) := by decide +kernel
theorem dX7_behind_14 : decode cX7_behind 14 = .ok (.ireturn, 1) := by decide +kernel
theorem dX7_behind_15 : decode cX7_behind 15 = .ok (.aload_n 0, 1) := by decide +kernel
theorem dX7_behind_16 : decode cX7_behind 16 = .ok (.invokevirtual 111, 3) := by decide +kernel
theorem dX7_behind_19 : decode cX7_behind 19 = .ok (.aload_n 0, 1) := by decide +kernel
theorem dX7_behind_20 : decode cX7_behind 20 = .ok (.iload_n 1, 1) := by decide +kernel
theorem dX7_behind_21 : decode cX7_behind 21 = .ok (.bipush (-6), 2) := by decide +kernel
theorem dX7_behind_23 : decode cX7_behind 23 = .ok (.invokevirtual 114, 3) := by decide +kernel
theorem dX7_behind_26 : decode cX7_behind 26 = .ok (.istore_n 3, 1) := by decide +kernel
theorem dX7_behind_27 : decode cX7_behind 27 = .ok (.iload_n 3, 1) := by decide +kernel
theorem dX7_behind_28 : decode cX7_behind 28 = .ok (.ifCond .ge 5, 3) := by decide +kernel
theorem dX7_behind_31 : decode cX7_behind 31 = .ok (.iload_n 3, 1) := by decide +kernel
theorem dX7_behind_32 : decode cX7_behind 32 = .ok (.ireturn, 1) := by decide +kernel
theorem dX7_behind_33 : decode cX7_behind 33 = .ok (.iload_n 2, 1) := by decide +kernel
theorem dX7_behind_34 : decode cX7_behind 34 = .ok (.iconst (-1), 1) := by decide +kernel
theorem dX7_behind_35 : decode cX7_behind 35 = .ok (.if_icmp .ne 10, 3) := by decide +kernel
theorem dX7_behind_38 : decode cX7_behind 38 = .ok (.aload_n 0, 1) := by decide +kernel
theorem dX7_behind_39 : decode cX7_behind 39 = .ok (.getfield 94, 3) := by decide +kernel
theorem dX7_behind_42 : decode cX7_behind 42 = .ok (.goto 28, 3) := by decide +kernel
theorem dX7_behind_45 : decode cX7_behind 45 = .ok (.iload_n 2, 1) := by decide +kernel
theorem dX7_behind_46 : decode cX7_behind 46 = .ok (.iconst 0, 1) := by decide +kernel
theorem dX7_behind_47 : decode cX7_behind 47 = .ok (.aload_n 0, 1) := by decide +kernel
theorem dX7_behind_48 : decode cX7_behind 48 = .ok (.getfield 94, 3) := by decide +kernel
theorem dX7_behind_51 : decode cX7_behind 51 = .ok (.iconst 1, 1) := by decide +kernel
theorem dX7_behind_52 : decode cX7_behind 52 = .ok (.isub, 1) := by decide +kernel
theorem dX7_behind_53 : decode cX7_behind 53 = .ok (.invokestatic 63, 3) := by decide +kernel
theorem dX7_behind_56 : decode cX7_behind 56 = .ok (.ifCond .eq 12, 3) := by decide +kernel
theorem dX7_behind_59 : decode cX7_behind 59 = .ok (.aload_n 0, 1) := by decide +kernel
theorem dX7_behind_60 : decode cX7_behind 60 = .ok (.getfield 38, 3) := by decide +kernel
theorem dX7_behind_63 : decode cX7_behind 63 = .ok (.iload_n 2, 1) := by decide +kernel
theorem dX7_behind_64 : decode cX7_behind 64 = .ok (.iaload, 1) := by decide +kernel
theorem dX7_behind_65 : decode cX7_behind 65 = .ok (.goto 5, 3) := by decide +kernel
theorem dX7_behind_68 : decode cX7_behind 68 = .ok (.bipush (-6), 2) := by decide +kernel
theorem dX7_behind_70 : decode cX7_behind 70 = .ok (.ireturn, 1) := by decide +kernel
theorem dX7_barred_0 : decode cX7_barred 0 = .ok (.aload_n 0, 1) := by decide +kernel
theorem dX7_barred_1 : decode cX7_barred 1 = .ok (.invokevirtual 111, 3) := by decide +kernel
theorem dX7_barred_4 : decode cX7_barred 4 = .ok (.aload_n 0, 1) := by decide +kernel
theorem dX7_barred_5 : decode cX7_barred 5 = .ok (.aload_n 0, 1) := by decide +kernel
theorem dX7_barred_6 : decode cX7_barred 6 = .ok (.getfield 84, 3) := by decide +kernel
theorem dX7_barred_9 : decode cX7_barred 9 = .ok (.bipush (-6), 2) := by decide +kernel
theorem dX7_barred_11 : decode cX7_barred 11 = .ok (.invokevirtual 114, 3) := by decide +kernel
theorem dX7_barred_14 : decode cX7_barred 14 = .ok (.istore_n 1, 1) := by decide +kernel
theorem dX7_barred_15 : decode cX7_barred 15 = .ok (.iload_n 1, 1) := by decide +kernel
theorem dX7_barred_16 : decode cX7_barred 16 = .ok (.bipush (-5), 2) := by decide +kernel
theorem dX7_barred_18 : decode cX7_barred 18 = .ok (.if_icmp .ne 10, 3) := by decide +kernel
theorem dX7_barred_21 : decode cX7_barred 21 = .ok (.aload_n 0, 1) := by decide +kernel
theorem dX7_barred_22 : decode cX7_barred 22 = .ok (.getfield 104, 3) := by decide +kernel
theorem dX7_barred_25 : decode cX7_barred 25 = .ok (.goto 16, 3) := by decide +kernel
theorem dX7_barred_28 : decode cX7_barred 28 = .ok (.iload_n 1, 1) := by decide +kernel
theorem dX7_barred_29 : decode cX7_barred 29 = .ok (.bipush (-7), 2) := by decide +kernel
theorem dX7_barred_31 : decode cX7_barred 31 = .ok (.if_icmp .ne 8, 3) := by decide +kernel
theorem dX7_barred_34 : decode cX7_barred 34 = .ok (.bipush (-7), 2) := by decide +kernel
theorem dX7_barred_36 : decode cX7_barred 36 = .ok (.goto 5, 3) := by decide +kernel
theorem dX7_barred_39 : decode cX7_barred 39 = .ok (.bipush (-6), 2) := by decide +kernel
theorem dX7_barred_41 : decode cX7_barred 41 = .ok (.ireturn, 1) := by decide +kernel
theorem dX7_lengthOf_0 : decode cX7_lengthOf 0 = .ok (.aload_n 0, 1) := by decide +kernel
theorem dX7_lengthOf_1 : decode cX7_lengthOf 1 = .ok (.iconst 1, 1) := by decide +kernel
theorem dX7_lengthOf_2 : decode cX7_lengthOf 2 = .ok (.putfield 94, 3) := by decide +kernel
theorem dX7_lengthOf_5 : decode cX7_lengthOf 5 = .ok (.aload_n 0, 1) := by decide +kernel
theorem dX7_lengthOf_6 : decode cX7_lengthOf 6 = .ok (.getfield 38, 3) := by decide +kernel
theorem dX7_lengthOf_9 : decode cX7_lengthOf 9 = .ok (.iconst 0, 1) := by decide +kernel
theorem dX7_lengthOf_10 : decode cX7_lengthOf 10 = .ok (.iload_n 1, 1) := by decide +kernel
theorem dX7_lengthOf_11 : decode cX7_lengthOf 11 = .ok (.iastore, 1) := by decide +kernel
theorem dX7_lengthOf_12 : decode cX7_lengthOf 12 = .ok (.aload_n 0, 1) := by decide +kernel
theorem dX7_lengthOf_13 : decode cX7_lengthOf 13 = .ok (.aload_n 0, 1) := by decide +kernel
theorem dX7_lengthOf_14 : decode cX7_lengthOf 14 = .ok (.getfield 84, 3) := by decide +kernel
theorem dX7_lengthOf_17 : decode cX7_lengthOf 17 = .ok (.bipush (-6), 2) := by decide +kernel
theorem dX7_lengthOf_19 : decode cX7_lengthOf 19 = .ok (.invokevirtual 114, 3) := by decide +kernel
theorem dX7_lengthOf_22 : decode cX7_lengthOf 22 = .ok (.ifCond .ge 8, 3) := by decide +kernel
theorem dX7_lengthOf_25 : decode cX7_lengthOf 25 = .ok (.bipush (-6), 2) := by decide +kernel
theorem dX7_lengthOf_27 : decode cX7_lengthOf 27 = .ok (.goto 7, 3) := by decide +kernel
theorem dX7_lengthOf_30 : decode cX7_lengthOf 30 = .ok (.aload_n 0, 1) := by decide +kernel
theorem dX7_lengthOf_31 : decode cX7_lengthOf 31 = .ok (.getfield 94, 3) := by decide +kernel
theorem dX7_lengthOf_34 : decode cX7_lengthOf 34 = .ok (.ireturn, 1) := by decide +kernel
theorem dX7_growsOf_0 : decode cX7_growsOf 0 = .ok (.aload_n 0, 1) := by decide +kernel
theorem dX7_growsOf_1 : decode cX7_growsOf 1 = .ok (.bipush 120, 2) := by decide +kernel
theorem dX7_growsOf_3 : decode cX7_growsOf 3 = .ok (.invokevirtual 118, 3) := by decide +kernel
theorem dX7_growsOf_6 : decode cX7_growsOf 6 = .ok (.istore_n 2, 1) := by decide +kernel
theorem dX7_growsOf_7 : decode cX7_growsOf 7 = .ok (.aload_n 0, 1) := by decide +kernel
theorem dX7_growsOf_8 : decode cX7_growsOf 8 = .ok (.iload_n 1, 1) := by decide +kernel
theorem dX7_growsOf_9 : decode cX7_growsOf 9 = .ok (.invokevirtual 118, 3) := by decide +kernel
theorem dX7_growsOf_12 : decode cX7_growsOf 12 = .ok (.istore_n 3, 1) := by decide +kernel
theorem dX7_growsOf_13 : decode cX7_growsOf 13 = .ok (.iload_n 2, 1) := by decide +kernel
theorem dX7_growsOf_14 : decode cX7_growsOf 14 = .ok (.ifCond .lt 7, 3) := by decide +kernel
theorem dX7_growsOf_17 : decode cX7_growsOf 17 = .ok (.iload_n 3, 1) := by decide +kernel
theorem dX7_growsOf_18 : decode cX7_growsOf 18 = .ok (.ifCond .ge 8, 3) := by decide +kernel
theorem dX7_growsOf_21 : decode cX7_growsOf 21 = .ok (.bipush (-6), 2) := by decide +kernel
theorem dX7_growsOf_23 : decode cX7_growsOf 23 = .ok (.goto 8, 3) := by decide +kernel
theorem dX7_growsOf_26 : decode cX7_growsOf 26 = .ok (.iload_n 3, 1) := by decide +kernel
theorem dX7_growsOf_27 : decode cX7_growsOf 27 = .ok (.iload_n 2, 1) := by decide +kernel
theorem dX7_growsOf_28 : decode cX7_growsOf 28 = .ok (.isub, 1) := by decide +kernel
theorem dX7_growsOf_29 : decode cX7_growsOf 29 = .ok (.iconst 1, 1) := by decide +kernel
theorem dX7_growsOf_30 : decode cX7_growsOf 30 = .ok (.iadd, 1) := by decide +kernel
theorem dX7_growsOf_31 : decode cX7_growsOf 31 = .ok (.ireturn, 1) := by decide +kernel
theorem dX7_grows_0 : decode cX7_grows 0 = .ok (.iload_n 1, 1) := by decide +kernel
theorem dX7_grows_1 : decode cX7_grows 1 = .ok (.bipush 33, 2) := by decide +kernel
theorem dX7_grows_3 : decode cX7_grows 3 = .ok (.bipush 126, 2) := by decide +kernel
theorem dX7_grows_5 : decode cX7_grows 5 = .ok (.invokestatic 63, 3) := by decide +kernel
theorem dX7_grows_8 : decode cX7_grows 8 = .ok (.ifCond .eq 11, 3) := by decide +kernel
theorem dX7_grows_11 : decode cX7_grows 11 = .ok (.aload_n 0, 1) := by decide +kernel
theorem dX7_grows_12 : decode cX7_grows 12 = .ok (.iload_n 1, 1) := by decide +kernel
theorem dX7_grows_13 : decode cX7_grows 13 = .ok (.invokevirtual 121, 3) := by decide +kernel
theorem dX7_grows_16 : decode cX7_grows 16 = .ok (.goto 5, 3) := by decide +kernel
theorem dX7_grows_19 : decode cX7_grows 19 = .ok (.bipush (-2), 2) := by decide +kernel
theorem dX7_grows_21 : decode cX7_grows 21 = .ok (.ireturn, 1) := by decide +kernel
theorem dX7_safe_0 : decode cX7_safe 0 = .ok (.iconst 0, 1) := by decide +kernel
theorem dX7_safe_1 : decode cX7_safe 1 = .ok (.istore_n 2, 1) := by decide +kernel
theorem dX7_safe_2 : decode cX7_safe 2 = .ok (.bipush 33, 2) := by decide +kernel
theorem dX7_safe_4 : decode cX7_safe 4 = .ok (.istore_n 3, 1) := by decide +kernel
theorem dX7_safe_5 : decode cX7_safe 5 = .ok (.iload_n 3, 1) := by decide +kernel
theorem dX7_safe_6 : decode cX7_safe 6 = .ok (.bipush 127, 2) := by decide +kernel
theorem dX7_safe_8 : decode cX7_safe 8 = .ok (.if_icmp .ge 28, 3) := by decide +kernel
theorem dX7_safe_11 : decode cX7_safe 11 = .ok (.aload_n 0, 1) := by decide +kernel
theorem dX7_safe_12 : decode cX7_safe 12 = .ok (.iload_n 3, 1) := by decide +kernel
theorem dX7_safe_13 : decode cX7_safe 13 = .ok (.invokevirtual 121, 3) := by decide +kernel
theorem dX7_safe_16 : decode cX7_safe 16 = .ok (.iconst 1, 1) := by decide +kernel
theorem dX7_safe_17 : decode cX7_safe 17 = .ok (.if_icmp .ne 13, 3) := by decide +kernel
theorem dX7_safe_20 : decode cX7_safe 20 = .ok (.iload_n 2, 1) := by decide +kernel
theorem dX7_safe_21 : decode cX7_safe 21 = .ok (.iload_n 1, 1) := by decide +kernel
theorem dX7_safe_22 : decode cX7_safe 22 = .ok (.if_icmp .ne 5, 3) := by decide +kernel
theorem dX7_safe_25 : decode cX7_safe 25 = .ok (.iload_n 3, 1) := by decide +kernel
theorem dX7_safe_26 : decode cX7_safe 26 = .ok (.ireturn, 1) := by decide +kernel
theorem dX7_safe_27 : decode cX7_safe 27 = .ok (.iinc 2 1, 3) := by decide +kernel
theorem dX7_safe_30 : decode cX7_safe 30 = .ok (.iinc 3 1, 3) := by decide +kernel
theorem dX7_safe_33 : decode cX7_safe 33 = .ok (.goto (-28), 3) := by decide +kernel
theorem dX7_safe_36 : decode cX7_safe 36 = .ok (.iload_n 1, 1) := by decide +kernel
theorem dX7_safe_37 : decode cX7_safe 37 = .ok (.iconst (-1), 1) := by decide +kernel
theorem dX7_safe_38 : decode cX7_safe 38 = .ok (.if_icmp .ne 7, 3) := by decide +kernel
theorem dX7_safe_41 : decode cX7_safe 41 = .ok (.iload_n 2, 1) := by decide +kernel
theorem dX7_safe_42 : decode cX7_safe 42 = .ok (.goto 5, 3) := by decide +kernel
theorem dX7_safe_45 : decode cX7_safe 45 = .ok (.bipush (-6), 2) := by decide +kernel
theorem dX7_safe_47 : decode cX7_safe 47 = .ok (.ireturn, 1) := by decide +kernel
theorem dX7_dearest_0 : decode cX7_dearest 0 = .ok (.aload_n 0, 1) := by decide +kernel
theorem dX7_dearest_1 : decode cX7_dearest 1 = .ok (.bipush 120, 2) := by decide +kernel
theorem dX7_dearest_3 : decode cX7_dearest 3 = .ok (.invokevirtual 118, 3) := by decide +kernel
theorem dX7_dearest_6 : decode cX7_dearest 6 = .ok (.ifCond .ge 6, 3) := by decide +kernel
theorem dX7_dearest_9 : decode cX7_dearest 9 = .ok (.bipush (-6), 2) := by decide +kernel
theorem dX7_dearest_11 : decode cX7_dearest 11 = .ok (.ireturn, 1) := by decide +kernel
theorem dX7_dearest_12 : decode cX7_dearest 12 = .ok (.bipush (-6), 2) := by decide +kernel
theorem dX7_dearest_14 : decode cX7_dearest 14 = .ok (.istore_n 1, 1) := by decide +kernel
theorem dX7_dearest_15 : decode cX7_dearest 15 = .ok (.iconst 0, 1) := by decide +kernel
theorem dX7_dearest_16 : decode cX7_dearest 16 = .ok (.istore_n 2, 1) := by decide +kernel
theorem dX7_dearest_17 : decode cX7_dearest 17 = .ok (.bipush 33, 2) := by decide +kernel
theorem dX7_dearest_19 : decode cX7_dearest 19 = .ok (.istore_n 3, 1) := by decide +kernel
theorem dX7_dearest_20 : decode cX7_dearest 20 = .ok (.iload_n 3, 1) := by decide +kernel
theorem dX7_dearest_21 : decode cX7_dearest 21 = .ok (.bipush 127, 2) := by decide +kernel
theorem dX7_dearest_23 : decode cX7_dearest 23 = .ok (.if_icmp .ge 36, 3) := by decide +kernel
theorem dX7_dearest_26 : decode cX7_dearest 26 = .ok (.aload_n 0, 1) := by decide +kernel
theorem dX7_dearest_27 : decode cX7_dearest 27 = .ok (.iload_n 3, 1) := by decide +kernel
theorem dX7_dearest_28 : decode cX7_dearest 28 = .ok (.invokevirtual 121, 3) := by decide +kernel
theorem dX7_dearest_31 : decode cX7_dearest 31 = .ok (.istore 4, 2) := by decide +kernel
theorem dX7_dearest_33 : decode cX7_dearest 33 = .ok (.iload 4, 2) := by decide +kernel
theorem dX7_dearest_35 : decode cX7_dearest 35 = .ok (.ifCond .lt 18, 3) := by decide +kernel
theorem dX7_dearest_38 : decode cX7_dearest 38 = .ok (.iload_n 1, 1) := by decide +kernel
theorem dX7_dearest_39 : decode cX7_dearest 39 = .ok (.ifCond .lt 9, 3) := by decide +kernel
theorem dX7_dearest_42 : decode cX7_dearest 42 = .ok (.iload 4, 2) := by decide +kernel
theorem dX7_dearest_44 : decode cX7_dearest 44 = .ok (.iload_n 2, 1) := by decide +kernel
theorem dX7_dearest_45 : decode cX7_dearest 45 = .ok (.if_icmp .le 8, 3) := by decide +kernel
theorem dX7_dearest_48 : decode cX7_dearest 48 = .ok (.iload_n 3, 1) := by decide +kernel
theorem dX7_dearest_49 : decode cX7_dearest 49 = .ok (.istore_n 1, 1) := by decide +kernel
theorem dX7_dearest_50 : decode cX7_dearest 50 = .ok (.iload 4, 2) := by decide +kernel
theorem dX7_dearest_52 : decode cX7_dearest 52 = .ok (.istore_n 2, 1) := by decide +kernel
theorem dX7_dearest_53 : decode cX7_dearest 53 = .ok (.iinc 3 1, 3) := by decide +kernel
theorem dX7_dearest_56 : decode cX7_dearest 56 = .ok (.goto (-36), 3) := by decide +kernel
theorem dX7_dearest_59 : decode cX7_dearest 59 = .ok (.iload_n 1, 1) := by decide +kernel
theorem dX7_dearest_60 : decode cX7_dearest 60 = .ok (.ireturn, 1) := by decide +kernel
theorem dX7_valueOf_0 : decode cX7_valueOf 0 = .ok (.iload_n 0, 1) := by decide +kernel
theorem dX7_valueOf_1 : decode cX7_valueOf 1 = .ok (.bipush 48, 2) := by decide +kernel
theorem dX7_valueOf_3 : decode cX7_valueOf 3 = .ok (.bipush 57, 2) := by decide +kernel
theorem dX7_valueOf_5 : decode cX7_valueOf 5 = .ok (.invokestatic 63, 3) := by decide +kernel
theorem dX7_valueOf_8 : decode cX7_valueOf 8 = .ok (.ifCond .eq 10, 3) := by decide +kernel
theorem dX7_valueOf_11 : decode cX7_valueOf 11 = .ok (.iload_n 0, 1) := by decide +kernel
theorem dX7_valueOf_12 : decode cX7_valueOf 12 = .ok (.bipush 48, 2) := by decide +kernel
theorem dX7_valueOf_14 : decode cX7_valueOf 14 = .ok (.isub, 1) := by decide +kernel
theorem dX7_valueOf_15 : decode cX7_valueOf 15 = .ok (.goto 26, 3) := by decide +kernel
theorem dX7_valueOf_18 : decode cX7_valueOf 18 = .ok (.iload_n 0, 1) := by decide +kernel
theorem dX7_valueOf_19 : decode cX7_valueOf 19 = .ok (.bipush 97, 2) := by decide +kernel
theorem dX7_valueOf_21 : decode cX7_valueOf 21 = .ok (.bipush 102, 2) := by decide +kernel
theorem dX7_valueOf_23 : decode cX7_valueOf 23 = .ok (.invokestatic 63, 3) := by decide +kernel
theorem dX7_valueOf_26 : decode cX7_valueOf 26 = .ok (.ifCond .eq 13, 3) := by decide +kernel
theorem dX7_valueOf_29 : decode cX7_valueOf 29 = .ok (.iload_n 0, 1) := by decide +kernel
theorem dX7_valueOf_30 : decode cX7_valueOf 30 = .ok (.bipush 97, 2) := by decide +kernel
theorem dX7_valueOf_32 : decode cX7_valueOf 32 = .ok (.isub, 1) := by decide +kernel
theorem dX7_valueOf_33 : decode cX7_valueOf 33 = .ok (.bipush 10, 2) := by decide +kernel
theorem dX7_valueOf_35 : decode cX7_valueOf 35 = .ok (.iadd, 1) := by decide +kernel
theorem dX7_valueOf_36 : decode cX7_valueOf 36 = .ok (.goto 5, 3) := by decide +kernel
theorem dX7_valueOf_39 : decode cX7_valueOf 39 = .ok (.bipush (-6), 2) := by decide +kernel
theorem dX7_valueOf_41 : decode cX7_valueOf 41 = .ok (.ireturn, 1) := by decide +kernel
theorem dX7_codeAt_0 : decode cX7_codeAt 0 = .ok (.iload_n 1, 1) := by decide +kernel
theorem dX7_codeAt_1 : decode cX7_codeAt 1 = .ok (.iconst 2, 1) := by decide +kernel
theorem dX7_codeAt_2 : decode cX7_codeAt 2 = .ok (.iadd, 1) := by decide +kernel
theorem dX7_codeAt_3 : decode cX7_codeAt 3 = .ok (.aload_n 0, 1) := by decide +kernel
theorem dX7_codeAt_4 : decode cX7_codeAt 4 = .ok (.getfield 94, 3) := by decide +kernel
theorem dX7_codeAt_7 : decode cX7_codeAt 7 = .ok (.if_icmp .ge 31, 3) := by decide +kernel
theorem dX7_codeAt_10 : decode cX7_codeAt 10 = .ok (.aload_n 0, 1) := by decide +kernel
theorem dX7_codeAt_11 : decode cX7_codeAt 11 = .ok (.getfield 38, 3) := by decide +kernel
theorem dX7_codeAt_14 : decode cX7_codeAt 14 = .ok (.iload_n 1, 1) := by decide +kernel
theorem dX7_codeAt_15 : decode cX7_codeAt 15 = .ok (.iconst 1, 1) := by decide +kernel
theorem dX7_codeAt_16 : decode cX7_codeAt 16 = .ok (.iadd, 1) := by decide +kernel
theorem dX7_codeAt_17 : decode cX7_codeAt 17 = .ok (.iaload, 1) := by decide +kernel
theorem dX7_codeAt_18 : decode cX7_codeAt 18 = .ok (.invokestatic 124, 3) := by decide +kernel
theorem dX7_codeAt_21 : decode cX7_codeAt 21 = .ok (.ifCond .lt 17, 3) := by decide +kernel
theorem dX7_codeAt_24 : decode cX7_codeAt 24 = .ok (.aload_n 0, 1) := by decide +kernel
theorem dX7_codeAt_25 : decode cX7_codeAt 25 = .ok (.getfield 38, 3) := by decide +kernel
theorem dX7_codeAt_28 : decode cX7_codeAt 28 = .ok (.iload_n 1, 1) := by decide +kernel
theorem dX7_codeAt_29 : decode cX7_codeAt 29 = .ok (.iconst 2, 1) := by decide +kernel
theorem dX7_codeAt_30 : decode cX7_codeAt 30 = .ok (.iadd, 1) := by decide +kernel
theorem dX7_codeAt_31 : decode cX7_codeAt 31 = .ok (.iaload, 1) := by decide +kernel
theorem dX7_codeAt_32 : decode cX7_codeAt 32 = .ok (.invokestatic 124, 3) := by decide +kernel
theorem dX7_codeAt_35 : decode cX7_codeAt 35 = .ok (.ifCond .ge 6, 3) := by decide +kernel
theorem dX7_codeAt_38 : decode cX7_codeAt 38 = .ok (.bipush (-6), 2) := by decide +kernel
theorem dX7_codeAt_40 : decode cX7_codeAt 40 = .ok (.ireturn, 1) := by decide +kernel
theorem dX7_codeAt_41 : decode cX7_codeAt 41 = .ok (.bipush 16, 2) := by decide +kernel
theorem dX7_codeAt_43 : decode cX7_codeAt 43 = .ok (.aload_n 0, 1) := by decide +kernel
theorem dX7_codeAt_44 : decode cX7_codeAt 44 = .ok (.getfield 38, 3) := by decide +kernel
theorem dX7_codeAt_47 : decode cX7_codeAt 47 = .ok (.iload_n 1, 1) := by decide +kernel
theorem dX7_codeAt_48 : decode cX7_codeAt 48 = .ok (.iconst 1, 1) := by decide +kernel
theorem dX7_codeAt_49 : decode cX7_codeAt 49 = .ok (.iadd, 1) := by decide +kernel
theorem dX7_codeAt_50 : decode cX7_codeAt 50 = .ok (.iaload, 1) := by decide +kernel
theorem dX7_codeAt_51 : decode cX7_codeAt 51 = .ok (.invokestatic 124, 3) := by decide +kernel
theorem dX7_codeAt_54 : decode cX7_codeAt 54 = .ok (.imul, 1) := by decide +kernel
theorem dX7_codeAt_55 : decode cX7_codeAt 55 = .ok (.aload_n 0, 1) := by decide +kernel
theorem dX7_codeAt_56 : decode cX7_codeAt 56 = .ok (.getfield 38, 3) := by decide +kernel
theorem dX7_codeAt_59 : decode cX7_codeAt 59 = .ok (.iload_n 1, 1) := by decide +kernel
theorem dX7_codeAt_60 : decode cX7_codeAt 60 = .ok (.iconst 2, 1) := by decide +kernel
theorem dX7_codeAt_61 : decode cX7_codeAt 61 = .ok (.iadd, 1) := by decide +kernel
theorem dX7_codeAt_62 : decode cX7_codeAt 62 = .ok (.iaload, 1) := by decide +kernel
theorem dX7_codeAt_63 : decode cX7_codeAt 63 = .ok (.invokestatic 124, 3) := by decide +kernel
theorem dX7_codeAt_66 : decode cX7_codeAt 66 = .ok (.iadd, 1) := by decide +kernel
theorem dX7_codeAt_67 : decode cX7_codeAt 67 = .ok (.istore_n 2, 1) := by decide +kernel
theorem dX7_codeAt_68 : decode cX7_codeAt 68 = .ok (.iload_n 2, 1) := by decide +kernel
theorem dX7_codeAt_69 : decode cX7_codeAt 69 = .ok (.bipush 33, 2) := by decide +kernel
theorem dX7_codeAt_71 : decode cX7_codeAt 71 = .ok (.bipush 126, 2) := by decide +kernel
theorem dX7_codeAt_73 : decode cX7_codeAt 73 = .ok (.invokestatic 63, 3) := by decide +kernel
theorem dX7_codeAt_76 : decode cX7_codeAt 76 = .ok (.ifCond .eq 7, 3) := by decide +kernel
theorem dX7_codeAt_79 : decode cX7_codeAt 79 = .ok (.iload_n 2, 1) := by decide +kernel
theorem dX7_codeAt_80 : decode cX7_codeAt 80 = .ok (.goto 5, 3) := by decide +kernel
theorem dX7_codeAt_83 : decode cX7_codeAt 83 = .ok (.bipush (-6), 2) := by decide +kernel
theorem dX7_codeAt_85 : decode cX7_codeAt 85 = .ok (.ireturn, 1) := by decide +kernel
theorem dX7_readBy_0 : decode cX7_readBy 0 = .ok (.iconst 0, 1) := by decide +kernel
theorem dX7_readBy_1 : decode cX7_readBy 1 = .ok (.istore_n 2, 1) := by decide +kernel
theorem dX7_readBy_2 : decode cX7_readBy 2 = .ok (.iconst 0, 1) := by decide +kernel
theorem dX7_readBy_3 : decode cX7_readBy 3 = .ok (.istore_n 3, 1) := by decide +kernel
theorem dX7_readBy_4 : decode cX7_readBy 4 = .ok (.aload_n 0, 1) := by decide +kernel
theorem dX7_readBy_5 : decode cX7_readBy 5 = .ok (.iload_n 1, 1) := by decide +kernel
theorem dX7_readBy_6 : decode cX7_readBy 6 = .ok (.invokevirtual 87, 3) := by decide +kernel
theorem dX7_readBy_9 : decode cX7_readBy 9 = .ok (.ifCond .eq 29, 3) := by decide +kernel
theorem dX7_readBy_12 : decode cX7_readBy 12 = .ok (.aload_n 0, 1) := by decide +kernel
theorem dX7_readBy_13 : decode cX7_readBy 13 = .ok (.getfield 94, 3) := by decide +kernel
theorem dX7_readBy_16 : decode cX7_readBy 16 = .ok (.ifCond .eq 18, 3) := by decide +kernel
theorem dX7_readBy_19 : decode cX7_readBy 19 = .ok (.aload_n 0, 1) := by decide +kernel
theorem dX7_readBy_20 : decode cX7_readBy 20 = .ok (.getfield 38, 3) := by decide +kernel
theorem dX7_readBy_23 : decode cX7_readBy 23 = .ok (.iconst 0, 1) := by decide +kernel
theorem dX7_readBy_24 : decode cX7_readBy 24 = .ok (.iaload, 1) := by decide +kernel
theorem dX7_readBy_25 : decode cX7_readBy 25 = .ok (.aload_n 0, 1) := by decide +kernel
theorem dX7_readBy_26 : decode cX7_readBy 26 = .ok (.getfield 13, 3) := by decide +kernel
theorem dX7_readBy_29 : decode cX7_readBy 29 = .ok (.iload_n 1, 1) := by decide +kernel
theorem dX7_readBy_30 : decode cX7_readBy 30 = .ok (.iaload, 1) := by decide +kernel
theorem dX7_readBy_31 : decode cX7_readBy 31 = .ok (.if_icmp .eq 5, 3) := by decide +kernel
theorem dX7_readBy_34 : decode cX7_readBy 34 = .ok (.iconst 0, 1) := by decide +kernel
theorem dX7_readBy_35 : decode cX7_readBy 35 = .ok (.ireturn, 1) := by decide +kernel
theorem dX7_readBy_36 : decode cX7_readBy 36 = .ok (.iconst 1, 1) := by decide +kernel
theorem dX7_readBy_37 : decode cX7_readBy 37 = .ok (.istore_n 3, 1) := by decide +kernel
theorem dX7_readBy_38 : decode cX7_readBy 38 = .ok (.iconst 0, 1) := by decide +kernel
theorem dX7_readBy_39 : decode cX7_readBy 39 = .ok (.istore 4, 2) := by decide +kernel
theorem dX7_readBy_41 : decode cX7_readBy 41 = .ok (.iload_n 3, 1) := by decide +kernel
theorem dX7_readBy_42 : decode cX7_readBy 42 = .ok (.aload_n 0, 1) := by decide +kernel
theorem dX7_readBy_43 : decode cX7_readBy 43 = .ok (.getfield 94, 3) := by decide +kernel
theorem dX7_readBy_46 : decode cX7_readBy 46 = .ok (.if_icmp .ge 223, 3) := by decide +kernel
theorem dX7_readBy_49 : decode cX7_readBy 49 = .ok (.iload 4, 2) := by decide +kernel
theorem dX7_readBy_51 : decode cX7_readBy 51 = .ok (.ifCond .ne 218, 3) := by decide +kernel
theorem dX7_readBy_54 : decode cX7_readBy 54 = .ok (.aload_n 0, 1) := by decide +kernel
theorem dX7_readBy_55 : decode cX7_readBy 55 = .ok (.getfield 38, 3) := by decide +kernel
theorem dX7_readBy_58 : decode cX7_readBy 58 = .ok (.iload_n 3, 1) := by decide +kernel
theorem dX7_readBy_59 : decode cX7_readBy 59 = .ok (.iaload, 1) := by decide +kernel
theorem dX7_readBy_60 : decode cX7_readBy 60 = .ok (.istore 5, 2) := by decide +kernel
theorem dX7_readBy_62 : decode cX7_readBy 62 = .ok (.iload 5, 2) := by decide +kernel
theorem dX7_readBy_64 : decode cX7_readBy 64 = .ok (.istore 6, 2) := by decide +kernel
theorem dX7_readBy_66 : decode cX7_readBy 66 = .ok (.iconst 1, 1) := by decide +kernel
theorem dX7_readBy_67 : decode cX7_readBy 67 = .ok (.istore 7, 2) := by decide +kernel
theorem dX7_readBy_69 : decode cX7_readBy 69 = .ok (.iload 5, 2) := by decide +kernel
theorem dX7_readBy_71 : decode cX7_readBy 71 = .ok (.aload_n 0, 1) := by decide +kernel
theorem dX7_readBy_72 : decode cX7_readBy 72 = .ok (.getfield 19, 3) := by decide +kernel
theorem dX7_readBy_75 : decode cX7_readBy 75 = .ok (.iload_n 1, 1) := by decide +kernel
theorem dX7_readBy_76 : decode cX7_readBy 76 = .ok (.iaload, 1) := by decide +kernel
end
section
theorem dX7_readBy_77 : decode cX7_readBy 77 = .ok (.if_icmp .ne 70, 3) := by decide +kernel
theorem dX7_readBy_80 : decode cX7_readBy 80 = .ok (.aload_n 0, 1) := by decide +kernel
theorem dX7_readBy_81 : decode cX7_readBy 81 = .ok (.getfield 16, 3) := by decide +kernel
theorem dX7_readBy_84 : decode cX7_readBy 84 = .ok (.iload_n 1, 1) := by decide +kernel
theorem dX7_readBy_85 : decode cX7_readBy 85 = .ok (.iaload, 1) := by decide +kernel
theorem dX7_readBy_86 : decode cX7_readBy 86 = .ok (.iconst 1, 1) := by decide +kernel
theorem dX7_readBy_87 : decode cX7_readBy 87 = .ok (.if_icmp .ne 29, 3) := by decide +kernel
theorem dX7_readBy_90 : decode cX7_readBy 90 = .ok (.iload_n 3, 1) := by decide +kernel
theorem dX7_readBy_91 : decode cX7_readBy 91 = .ok (.iconst 1, 1) := by decide +kernel
theorem dX7_readBy_92 : decode cX7_readBy 92 = .ok (.iadd, 1) := by decide +kernel
theorem dX7_readBy_93 : decode cX7_readBy 93 = .ok (.aload_n 0, 1) := by decide +kernel
theorem dX7_readBy_94 : decode cX7_readBy 94 = .ok (.getfield 94, 3) := by decide +kernel
theorem dX7_readBy_97 : decode cX7_readBy 97 = .ok (.if_icmp .ge 14, 3) := by decide +kernel
theorem dX7_readBy_100 : decode cX7_readBy 100 = .ok (.aload_n 0, 1) := by decide +kernel
theorem dX7_readBy_101 : decode cX7_readBy 101 = .ok (.getfield 38, 3) := by decide +kernel
theorem dX7_readBy_104 : decode cX7_readBy 104 = .ok (.iload_n 3, 1) := by decide +kernel
theorem dX7_readBy_105 : decode cX7_readBy 105 = .ok (.iconst 1, 1) := by decide +kernel
theorem dX7_readBy_106 : decode cX7_readBy 106 = .ok (.iadd, 1) := by decide +kernel
theorem dX7_readBy_107 : decode cX7_readBy 107 = .ok (.iaload, 1) := by decide +kernel
theorem dX7_readBy_108 : decode cX7_readBy 108 = .ok (.goto 13, 3) := by decide +kernel
theorem dX7_readBy_111 : decode cX7_readBy 111 = .ok (.bipush (-6), 2) := by decide +kernel
theorem dX7_readBy_113 : decode cX7_readBy 113 = .ok (.goto 8, 3) := by decide +kernel
theorem dX7_readBy_116 : decode cX7_readBy 116 = .ok (.aload_n 0, 1) := by decide +kernel
theorem dX7_readBy_117 : decode cX7_readBy 117 = .ok (.iload_n 3, 1) := by decide +kernel
theorem dX7_readBy_118 : decode cX7_readBy 118 = .ok (.invokevirtual 127, 3) := by decide +kernel
theorem dX7_readBy_121 : decode cX7_readBy 121 = .ok (.istore 6, 2) := by decide +kernel
theorem dX7_readBy_123 : decode cX7_readBy 123 = .ok (.aload_n 0, 1) := by decide +kernel
theorem dX7_readBy_124 : decode cX7_readBy 124 = .ok (.getfield 16, 3) := by decide +kernel
theorem dX7_readBy_127 : decode cX7_readBy 127 = .ok (.iload_n 1, 1) := by decide +kernel
theorem dX7_readBy_128 : decode cX7_readBy 128 = .ok (.iaload, 1) := by decide +kernel
theorem dX7_readBy_129 : decode cX7_readBy 129 = .ok (.iconst 1, 1) := by decide +kernel
theorem dX7_readBy_130 : decode cX7_readBy 130 = .ok (.if_icmp .ne 7, 3) := by decide +kernel
theorem dX7_readBy_133 : decode cX7_readBy 133 = .ok (.iconst 2, 1) := by decide +kernel
theorem dX7_readBy_134 : decode cX7_readBy 134 = .ok (.goto 4, 3) := by decide +kernel
theorem dX7_readBy_137 : decode cX7_readBy 137 = .ok (.iconst 3, 1) := by decide +kernel
theorem dX7_readBy_138 : decode cX7_readBy 138 = .ok (.istore 7, 2) := by decide +kernel
theorem dX7_readBy_140 : decode cX7_readBy 140 = .ok (.iload 6, 2) := by decide +kernel
theorem dX7_readBy_142 : decode cX7_readBy 142 = .ok (.ifCond .ge 103, 3) := by decide +kernel
theorem dX7_readBy_145 : decode cX7_readBy 145 = .ok (.iload_n 3, 1) := by decide +kernel
theorem dX7_readBy_146 : decode cX7_readBy 146 = .ok (.ireturn, 1) := by decide +kernel
theorem dX7_readBy_147 : decode cX7_readBy 147 = .ok (.aload_n 0, 1) := by decide +kernel
theorem dX7_readBy_148 : decode cX7_readBy 148 = .ok (.iload_n 1, 1) := by decide +kernel
theorem dX7_readBy_149 : decode cX7_readBy 149 = .ok (.invokevirtual 87, 3) := by decide +kernel
theorem dX7_readBy_152 : decode cX7_readBy 152 = .ok (.ifCond .eq 81, 3) := by decide +kernel
theorem dX7_readBy_155 : decode cX7_readBy 155 = .ok (.iload 5, 2) := by decide +kernel
theorem dX7_readBy_157 : decode cX7_readBy 157 = .ok (.aload_n 0, 1) := by decide +kernel
theorem dX7_readBy_158 : decode cX7_readBy 158 = .ok (.getfield 13, 3) := by decide +kernel
theorem dX7_readBy_161 : decode cX7_readBy 161 = .ok (.iload_n 1, 1) := by decide +kernel
theorem dX7_readBy_162 : decode cX7_readBy 162 = .ok (.iaload, 1) := by decide +kernel
theorem dX7_readBy_163 : decode cX7_readBy 163 = .ok (.if_icmp .ne 70, 3) := by decide +kernel
theorem dX7_readBy_166 : decode cX7_readBy 166 = .ok (.aload_n 0, 1) := by decide +kernel
theorem dX7_readBy_167 : decode cX7_readBy 167 = .ok (.getfield 16, 3) := by decide +kernel
theorem dX7_readBy_170 : decode cX7_readBy 170 = .ok (.iload_n 1, 1) := by decide +kernel
theorem dX7_readBy_171 : decode cX7_readBy 171 = .ok (.iaload, 1) := by decide +kernel
theorem dX7_readBy_172 : decode cX7_readBy 172 = .ok (.iconst 2, 1) := by decide +kernel
theorem dX7_readBy_173 : decode cX7_readBy 173 = .ok (.if_icmp .ne 30, 3) := by decide +kernel
theorem dX7_readBy_176 : decode cX7_readBy 176 = .ok (.iload_n 3, 1) := by decide +kernel
theorem dX7_readBy_177 : decode cX7_readBy 177 = .ok (.iconst 1, 1) := by decide +kernel
theorem dX7_readBy_178 : decode cX7_readBy 178 = .ok (.iadd, 1) := by decide +kernel
theorem dX7_readBy_179 : decode cX7_readBy 179 = .ok (.aload_n 0, 1) := by decide +kernel
theorem dX7_readBy_180 : decode cX7_readBy 180 = .ok (.getfield 94, 3) := by decide +kernel
theorem dX7_readBy_183 : decode cX7_readBy 183 = .ok (.if_icmp .ge 20, 3) := by decide +kernel
theorem dX7_readBy_186 : decode cX7_readBy 186 = .ok (.aload_n 0, 1) := by decide +kernel
theorem dX7_readBy_187 : decode cX7_readBy 187 = .ok (.getfield 38, 3) := by decide +kernel
theorem dX7_readBy_190 : decode cX7_readBy 190 = .ok (.iload_n 3, 1) := by decide +kernel
theorem dX7_readBy_191 : decode cX7_readBy 191 = .ok (.iconst 1, 1) := by decide +kernel
theorem dX7_readBy_192 : decode cX7_readBy 192 = .ok (.iadd, 1) := by decide +kernel
theorem dX7_readBy_193 : decode cX7_readBy 193 = .ok (.iaload, 1) := by decide +kernel
theorem dX7_readBy_194 : decode cX7_readBy 194 = .ok (.iload 5, 2) := by decide +kernel
theorem dX7_readBy_196 : decode cX7_readBy 196 = .ok (.if_icmp .ne 7, 3) := by decide +kernel
theorem dX7_readBy_199 : decode cX7_readBy 199 = .ok (.iconst 1, 1) := by decide +kernel
theorem dX7_readBy_200 : decode cX7_readBy 200 = .ok (.goto 4, 3) := by decide +kernel
theorem dX7_readBy_203 : decode cX7_readBy 203 = .ok (.iconst 0, 1) := by decide +kernel
theorem dX7_readBy_204 : decode cX7_readBy 204 = .ok (.istore 8, 2) := by decide +kernel
theorem dX7_readBy_206 : decode cX7_readBy 206 = .ok (.iload 8, 2) := by decide +kernel
theorem dX7_readBy_208 : decode cX7_readBy 208 = .ok (.ifCond .ne 7, 3) := by decide +kernel
theorem dX7_readBy_211 : decode cX7_readBy 211 = .ok (.iconst 1, 1) := by decide +kernel
theorem dX7_readBy_212 : decode cX7_readBy 212 = .ok (.goto 4, 3) := by decide +kernel
theorem dX7_readBy_215 : decode cX7_readBy 215 = .ok (.iconst 0, 1) := by decide +kernel
theorem dX7_readBy_216 : decode cX7_readBy 216 = .ok (.istore 4, 2) := by decide +kernel
theorem dX7_readBy_218 : decode cX7_readBy 218 = .ok (.iload 8, 2) := by decide +kernel
theorem dX7_readBy_220 : decode cX7_readBy 220 = .ok (.ifCond .eq 7, 3) := by decide +kernel
theorem dX7_readBy_223 : decode cX7_readBy 223 = .ok (.iconst 2, 1) := by decide +kernel
theorem dX7_readBy_224 : decode cX7_readBy 224 = .ok (.goto 4, 3) := by decide +kernel
theorem dX7_readBy_227 : decode cX7_readBy 227 = .ok (.iconst 1, 1) := by decide +kernel
theorem dX7_readBy_228 : decode cX7_readBy 228 = .ok (.istore 7, 2) := by decide +kernel
theorem dX7_readBy_230 : decode cX7_readBy 230 = .ok (.goto 15, 3) := by decide +kernel
theorem dX7_readBy_233 : decode cX7_readBy 233 = .ok (.aload_n 0, 1) := by decide +kernel
theorem dX7_readBy_234 : decode cX7_readBy 234 = .ok (.iload_n 1, 1) := by decide +kernel
theorem dX7_readBy_235 : decode cX7_readBy 235 = .ok (.iload 5, 2) := by decide +kernel
theorem dX7_readBy_237 : decode cX7_readBy 237 = .ok (.invokevirtual 90, 3) := by decide +kernel
theorem dX7_readBy_240 : decode cX7_readBy 240 = .ok (.ifCond .eq 5, 3) := by decide +kernel
theorem dX7_readBy_243 : decode cX7_readBy 243 = .ok (.iload_n 3, 1) := by decide +kernel
theorem dX7_readBy_244 : decode cX7_readBy 244 = .ok (.ireturn, 1) := by decide +kernel
theorem dX7_readBy_245 : decode cX7_readBy 245 = .ok (.iload 4, 2) := by decide +kernel
theorem dX7_readBy_247 : decode cX7_readBy 247 = .ok (.ifCond .ne 14, 3) := by decide +kernel
theorem dX7_readBy_250 : decode cX7_readBy 250 = .ok (.aload_n 0, 1) := by decide +kernel
theorem dX7_readBy_251 : decode cX7_readBy 251 = .ok (.getfield 41, 3) := by decide +kernel
theorem dX7_readBy_254 : decode cX7_readBy 254 = .ok (.iload_n 2, 1) := by decide +kernel
theorem dX7_readBy_255 : decode cX7_readBy 255 = .ok (.iload 6, 2) := by decide +kernel
theorem dX7_readBy_257 : decode cX7_readBy 257 = .ok (.iastore, 1) := by decide +kernel
theorem dX7_readBy_258 : decode cX7_readBy 258 = .ok (.iinc 2 1, 3) := by decide +kernel
theorem dX7_readBy_261 : decode cX7_readBy 261 = .ok (.iload_n 3, 1) := by decide +kernel
theorem dX7_readBy_262 : decode cX7_readBy 262 = .ok (.iload 7, 2) := by decide +kernel
theorem dX7_readBy_264 : decode cX7_readBy 264 = .ok (.iadd, 1) := by decide +kernel
theorem dX7_readBy_265 : decode cX7_readBy 265 = .ok (.istore_n 3, 1) := by decide +kernel
theorem dX7_readBy_266 : decode cX7_readBy 266 = .ok (.goto (-225), 3) := by decide +kernel
theorem dX7_readBy_269 : decode cX7_readBy 269 = .ok (.iload 4, 2) := by decide +kernel
theorem dX7_readBy_271 : decode cX7_readBy 271 = .ok (.ifCond .eq 14, 3) := by decide +kernel
theorem dX7_readBy_274 : decode cX7_readBy 274 = .ok (.iload_n 3, 1) := by decide +kernel
theorem dX7_readBy_275 : decode cX7_readBy 275 = .ok (.aload_n 0, 1) := by decide +kernel
theorem dX7_readBy_276 : decode cX7_readBy 276 = .ok (.getfield 94, 3) := by decide +kernel
theorem dX7_readBy_279 : decode cX7_readBy 279 = .ok (.if_icmp .ge 16, 3) := by decide +kernel
theorem dX7_readBy_282 : decode cX7_readBy 282 = .ok (.goto 11, 3) := by decide +kernel
theorem dX7_readBy_285 : decode cX7_readBy 285 = .ok (.aload_n 0, 1) := by decide +kernel
theorem dX7_readBy_286 : decode cX7_readBy 286 = .ok (.iload_n 1, 1) := by decide +kernel
theorem dX7_readBy_287 : decode cX7_readBy 287 = .ok (.invokevirtual 87, 3) := by decide +kernel
theorem dX7_readBy_290 : decode cX7_readBy 290 = .ok (.ifCond .eq 5, 3) := by decide +kernel
theorem dX7_readBy_293 : decode cX7_readBy 293 = .ok (.iload_n 3, 1) := by decide +kernel
theorem dX7_readBy_294 : decode cX7_readBy 294 = .ok (.ireturn, 1) := by decide +kernel
theorem dX7_readBy_295 : decode cX7_readBy 295 = .ok (.iconst 0, 1) := by decide +kernel
theorem dX7_readBy_296 : decode cX7_readBy 296 = .ok (.istore 5, 2) := by decide +kernel
theorem dX7_readBy_298 : decode cX7_readBy 298 = .ok (.iload 5, 2) := by decide +kernel
theorem dX7_readBy_300 : decode cX7_readBy 300 = .ok (.iload_n 2, 1) := by decide +kernel
theorem dX7_readBy_301 : decode cX7_readBy 301 = .ok (.if_icmp .ge 23, 3) := by decide +kernel
theorem dX7_readBy_304 : decode cX7_readBy 304 = .ok (.aload_n 0, 1) := by decide +kernel
theorem dX7_readBy_305 : decode cX7_readBy 305 = .ok (.getfield 38, 3) := by decide +kernel
theorem dX7_readBy_308 : decode cX7_readBy 308 = .ok (.iload 5, 2) := by decide +kernel
theorem dX7_readBy_310 : decode cX7_readBy 310 = .ok (.aload_n 0, 1) := by decide +kernel
theorem dX7_readBy_311 : decode cX7_readBy 311 = .ok (.getfield 41, 3) := by decide +kernel
theorem dX7_readBy_314 : decode cX7_readBy 314 = .ok (.iload 5, 2) := by decide +kernel
theorem dX7_readBy_316 : decode cX7_readBy 316 = .ok (.iaload, 1) := by decide +kernel
theorem dX7_readBy_317 : decode cX7_readBy 317 = .ok (.iastore, 1) := by decide +kernel
theorem dX7_readBy_318 : decode cX7_readBy 318 = .ok (.iinc 5 1, 3) := by decide +kernel
theorem dX7_readBy_321 : decode cX7_readBy 321 = .ok (.goto (-23), 3) := by decide +kernel
theorem dX7_readBy_324 : decode cX7_readBy 324 = .ok (.aload_n 0, 1) := by decide +kernel
theorem dX7_readBy_325 : decode cX7_readBy 325 = .ok (.iload_n 2, 1) := by decide +kernel
theorem dX7_readBy_326 : decode cX7_readBy 326 = .ok (.putfield 94, 3) := by decide +kernel
theorem dX7_readBy_329 : decode cX7_readBy 329 = .ok (.bipush (-6), 2) := by decide +kernel
theorem dX7_readBy_331 : decode cX7_readBy 331 = .ok (.ireturn, 1) := by decide +kernel
theorem dX7_readBack_0 : decode cX7_readBack 0 = .ok (.aload_n 0, 1) := by decide +kernel
theorem dX7_readBack_1 : decode cX7_readBack 1 = .ok (.getfield 84, 3) := by decide +kernel
theorem dX7_readBack_4 : decode cX7_readBack 4 = .ok (.iconst 1, 1) := by decide +kernel
theorem dX7_readBack_5 : decode cX7_readBack 5 = .ok (.isub, 1) := by decide +kernel
theorem dX7_readBack_6 : decode cX7_readBack 6 = .ok (.istore_n 1, 1) := by decide +kernel
theorem dX7_readBack_7 : decode cX7_readBack 7 = .ok (.iload_n 1, 1) := by decide +kernel
theorem dX7_readBack_8 : decode cX7_readBack 8 = .ok (.ifCond .lt 31, 3) := by decide +kernel
theorem dX7_readBack_11 : decode cX7_readBack 11 = .ok (.aload_n 0, 1) := by decide +kernel
theorem dX7_readBack_12 : decode cX7_readBack 12 = .ok (.iload_n 1, 1) := by decide +kernel
theorem dX7_readBack_13 : decode cX7_readBack 13 = .ok (.putfield 104, 3) := by decide +kernel
theorem dX7_readBack_16 : decode cX7_readBack 16 = .ok (.aload_n 0, 1) := by decide +kernel
theorem dX7_readBack_17 : decode cX7_readBack 17 = .ok (.aload_n 0, 1) := by decide +kernel
theorem dX7_readBack_18 : decode cX7_readBack 18 = .ok (.getfield 28, 3) := by decide +kernel
theorem dX7_readBack_21 : decode cX7_readBack 21 = .ok (.iload_n 1, 1) := by decide +kernel
theorem dX7_readBack_22 : decode cX7_readBack 22 = .ok (.iaload, 1) := by decide +kernel
theorem dX7_readBack_23 : decode cX7_readBack 23 = .ok (.invokevirtual 130, 3) := by decide +kernel
theorem dX7_readBack_26 : decode cX7_readBack 26 = .ok (.istore_n 2, 1) := by decide +kernel
theorem dX7_readBack_27 : decode cX7_readBack 27 = .ok (.iload_n 2, 1) := by decide +kernel
theorem dX7_readBack_28 : decode cX7_readBack 28 = .ok (.ifCond .lt 5, 3) := by decide +kernel
theorem dX7_readBack_31 : decode cX7_readBack 31 = .ok (.iload_n 2, 1) := by decide +kernel
theorem dX7_readBack_32 : decode cX7_readBack 32 = .ok (.ireturn, 1) := by decide +kernel
theorem dX7_readBack_33 : decode cX7_readBack 33 = .ok (.iinc 1 (-1), 3) := by decide +kernel
theorem dX7_readBack_36 : decode cX7_readBack 36 = .ok (.goto (-29), 3) := by decide +kernel
theorem dX7_readBack_39 : decode cX7_readBack 39 = .ok (.bipush (-6), 2) := by decide +kernel
theorem dX7_readBack_41 : decode cX7_readBack 41 = .ok (.ireturn, 1) := by decide +kernel
theorem dX7_layPad_0 : decode cX7_layPad 0 = .ok (.aload_n 0, 1) := by decide +kernel
theorem dX7_layPad_1 : decode cX7_layPad 1 = .ok (.aload_n 0, 1) := by decide +kernel
theorem dX7_layPad_2 : decode cX7_layPad 2 = .ok (.getfield 67, 3) := by decide +kernel
theorem dX7_layPad_5 : decode cX7_layPad 5 = .ok (.putfield 94, 3) := by decide +kernel
theorem dX7_layPad_8 : decode cX7_layPad 8 = .ok (.iconst 0, 1) := by decide +kernel
theorem dX7_layPad_9 : decode cX7_layPad 9 = .ok (.istore_n 1, 1) := by decide +kernel
theorem dX7_layPad_10 : decode cX7_layPad 10 = .ok (.iload_n 1, 1) := by decide +kernel
theorem dX7_layPad_11 : decode cX7_layPad 11 = .ok (.aload_n 0, 1) := by decide +kernel
theorem dX7_layPad_12 : decode cX7_layPad 12 = .ok (.getfield 67, 3) := by decide +kernel
theorem dX7_layPad_15 : decode cX7_layPad 15 = .ok (.if_icmp .ge 21, 3) := by decide +kernel
theorem dX7_layPad_18 : decode cX7_layPad 18 = .ok (.aload_n 0, 1) := by decide +kernel
theorem dX7_layPad_19 : decode cX7_layPad 19 = .ok (.getfield 38, 3) := by decide +kernel
theorem dX7_layPad_22 : decode cX7_layPad 22 = .ok (.iload_n 1, 1) := by decide +kernel
theorem dX7_layPad_23 : decode cX7_layPad 23 = .ok (.aload_n 0, 1) := by decide +kernel
theorem dX7_layPad_24 : decode cX7_layPad 24 = .ok (.getfield 7, 3) := by decide +kernel
theorem dX7_layPad_27 : decode cX7_layPad 27 = .ok (.iload_n 1, 1) := by decide +kernel
theorem dX7_layPad_28 : decode cX7_layPad 28 = .ok (.iaload, 1) := by decide +kernel
theorem dX7_layPad_29 : decode cX7_layPad 29 = .ok (.iastore, 1) := by decide +kernel
theorem dX7_layPad_30 : decode cX7_layPad 30 = .ok (.iinc 1 1, 3) := by decide +kernel
theorem dX7_layPad_33 : decode cX7_layPad 33 = .ok (.goto (-23), 3) := by decide +kernel
theorem dX7_layPad_36 : decode cX7_layPad 36 = .ok (.return_, 1) := by decide +kernel
theorem dX7_read_0 : decode cX7_read 0 = .ok (.aload_n 0, 1) := by decide +kernel
theorem dX7_read_1 : decode cX7_read 1 = .ok (.getfield 67, 3) := by decide +kernel
theorem dX7_read_4 : decode cX7_read 4 = .ok (.ifCond .ne 6, 3) := by decide +kernel
theorem dX7_read_7 : decode cX7_read 7 = .ok (.bipush (-3), 2) := by decide +kernel
theorem dX7_read_9 : decode cX7_read 9 = .ok (.ireturn, 1) := by decide +kernel
theorem dX7_read_10 : decode cX7_read 10 = .ok (.aload_n 0, 1) := by decide +kernel
theorem dX7_read_11 : decode cX7_read 11 = .ok (.invokevirtual 133, 3) := by decide +kernel
theorem dX7_read_14 : decode cX7_read 14 = .ok (.aload_n 0, 1) := by decide +kernel
theorem dX7_read_15 : decode cX7_read 15 = .ok (.invokevirtual 136, 3) := by decide +kernel
theorem dX7_read_18 : decode cX7_read 18 = .ok (.istore_n 2, 1) := by decide +kernel
theorem dX7_read_19 : decode cX7_read 19 = .ok (.iload_n 1, 1) := by decide +kernel
theorem dX7_read_20 : decode cX7_read 20 = .ok (.iconst (-1), 1) := by decide +kernel
theorem dX7_read_21 : decode cX7_read 21 = .ok (.if_icmp .eq 9, 3) := by decide +kernel
theorem dX7_read_24 : decode cX7_read 24 = .ok (.iload_n 1, 1) := by decide +kernel
theorem dX7_read_25 : decode cX7_read 25 = .ok (.bipush (-2), 2) := by decide +kernel
theorem dX7_read_27 : decode cX7_read 27 = .ok (.if_icmp .ne 26, 3) := by decide +kernel
theorem dX7_read_30 : decode cX7_read 30 = .ok (.iload_n 2, 1) := by decide +kernel
theorem dX7_read_31 : decode cX7_read 31 = .ok (.ifCond .ge 8, 3) := by decide +kernel
theorem dX7_read_34 : decode cX7_read 34 = .ok (.bipush (-6), 2) := by decide +kernel
theorem dX7_read_36 : decode cX7_read 36 = .ok (.goto 16, 3) := by decide +kernel
theorem dX7_read_39 : decode cX7_read 39 = .ok (.iload_n 1, 1) := by decide +kernel
theorem dX7_read_40 : decode cX7_read 40 = .ok (.iconst (-1), 1) := by decide +kernel
theorem dX7_read_41 : decode cX7_read 41 = .ok (.if_icmp .ne 10, 3) := by decide +kernel
theorem dX7_read_44 : decode cX7_read 44 = .ok (.aload_n 0, 1) := by decide +kernel
theorem dX7_read_45 : decode cX7_read 45 = .ok (.getfield 104, 3) := by decide +kernel
theorem dX7_read_48 : decode cX7_read 48 = .ok (.goto 4, 3) := by decide +kernel
theorem dX7_read_51 : decode cX7_read 51 = .ok (.iload_n 2, 1) := by decide +kernel
theorem dX7_read_52 : decode cX7_read 52 = .ok (.ireturn, 1) := by decide +kernel
theorem dX7_read_53 : decode cX7_read 53 = .ok (.iload_n 2, 1) := by decide +kernel
theorem dX7_read_54 : decode cX7_read 54 = .ok (.ifCond .lt 6, 3) := by decide +kernel
theorem dX7_read_57 : decode cX7_read 57 = .ok (.bipush (-6), 2) := by decide +kernel
theorem dX7_read_59 : decode cX7_read 59 = .ok (.ireturn, 1) := by decide +kernel
theorem dX7_read_60 : decode cX7_read 60 = .ok (.iload_n 1, 1) := by decide +kernel
theorem dX7_read_61 : decode cX7_read 61 = .ok (.bipush (-3), 2) := by decide +kernel
theorem dX7_read_63 : decode cX7_read 63 = .ok (.if_icmp .ne 10, 3) := by decide +kernel
theorem dX7_read_66 : decode cX7_read 66 = .ok (.aload_n 0, 1) := by decide +kernel
theorem dX7_read_67 : decode cX7_read 67 = .ok (.getfield 94, 3) := by decide +kernel
theorem dX7_read_70 : decode cX7_read 70 = .ok (.goto 28, 3) := by decide +kernel
theorem dX7_read_73 : decode cX7_read 73 = .ok (.iload_n 1, 1) := by decide +kernel
theorem dX7_read_74 : decode cX7_read 74 = .ok (.iconst 0, 1) := by decide +kernel
theorem dX7_read_75 : decode cX7_read 75 = .ok (.aload_n 0, 1) := by decide +kernel
theorem dX7_read_76 : decode cX7_read 76 = .ok (.getfield 94, 3) := by decide +kernel
theorem dX7_read_79 : decode cX7_read 79 = .ok (.iconst 1, 1) := by decide +kernel
theorem dX7_read_80 : decode cX7_read 80 = .ok (.isub, 1) := by decide +kernel
theorem dX7_read_81 : decode cX7_read 81 = .ok (.invokestatic 63, 3) := by decide +kernel
theorem dX7_read_84 : decode cX7_read 84 = .ok (.ifCond .eq 12, 3) := by decide +kernel
theorem dX7_read_87 : decode cX7_read 87 = .ok (.aload_n 0, 1) := by decide +kernel
theorem dX7_read_88 : decode cX7_read 88 = .ok (.getfield 38, 3) := by decide +kernel
theorem dX7_read_91 : decode cX7_read 91 = .ok (.iload_n 1, 1) := by decide +kernel
theorem dX7_read_92 : decode cX7_read 92 = .ok (.iaload, 1) := by decide +kernel
theorem dX7_read_93 : decode cX7_read 93 = .ok (.goto 5, 3) := by decide +kernel
theorem dX7_read_96 : decode cX7_read 96 = .ok (.bipush (-6), 2) := by decide +kernel
theorem dX7_read_98 : decode cX7_read 98 = .ok (.ireturn, 1) := by decide +kernel
theorem dX7_howBack_0 : decode cX7_howBack 0 = .ok (.aload_n 0, 1) := by decide +kernel
theorem dX7_howBack_1 : decode cX7_howBack 1 = .ok (.invokevirtual 136, 3) := by decide +kernel
theorem dX7_howBack_4 : decode cX7_howBack 4 = .ok (.ifCond .lt 5, 3) := by decide +kernel
theorem dX7_howBack_7 : decode cX7_howBack 7 = .ok (.iconst 2, 1) := by decide +kernel
theorem dX7_howBack_8 : decode cX7_howBack 8 = .ok (.ireturn, 1) := by decide +kernel
theorem dX7_howBack_9 : decode cX7_howBack 9 = .ok (.aload_n 0, 1) := by decide +kernel
theorem dX7_howBack_10 : decode cX7_howBack 10 = .ok (.getfield 94, 3) := by decide +kernel
theorem dX7_howBack_13 : decode cX7_howBack 13 = .ok (.aload_n 0, 1) := by decide +kernel
theorem dX7_howBack_14 : decode cX7_howBack 14 = .ok (.getfield 139, 3) := by decide +kernel
theorem dX7_howBack_17 : decode cX7_howBack 17 = .ok (.if_icmp .ne 7, 3) := by decide +kernel
theorem dX7_howBack_20 : decode cX7_howBack 20 = .ok (.iconst 1, 1) := by decide +kernel
theorem dX7_howBack_21 : decode cX7_howBack 21 = .ok (.goto 4, 3) := by decide +kernel
theorem dX7_howBack_24 : decode cX7_howBack 24 = .ok (.iconst 0, 1) := by decide +kernel
theorem dX7_howBack_25 : decode cX7_howBack 25 = .ok (.istore_n 1, 1) := by decide +kernel
theorem dX7_howBack_26 : decode cX7_howBack 26 = .ok (.iconst 0, 1) := by decide +kernel
theorem dX7_howBack_27 : decode cX7_howBack 27 = .ok (.istore_n 2, 1) := by decide +kernel
theorem dX7_howBack_28 : decode cX7_howBack 28 = .ok (.iload_n 2, 1) := by decide +kernel
theorem dX7_howBack_29 : decode cX7_howBack 29 = .ok (.aload_n 0, 1) := by decide +kernel
theorem dX7_howBack_30 : decode cX7_howBack 30 = .ok (.getfield 139, 3) := by decide +kernel
theorem dX7_howBack_33 : decode cX7_howBack 33 = .ok (.if_icmp .ge 34, 3) := by decide +kernel
theorem dX7_howBack_36 : decode cX7_howBack 36 = .ok (.iload_n 1, 1) := by decide +kernel
theorem dX7_howBack_37 : decode cX7_howBack 37 = .ok (.ifCond .eq 30, 3) := by decide +kernel
theorem dX7_howBack_40 : decode cX7_howBack 40 = .ok (.aload_n 0, 1) := by decide +kernel
theorem dX7_howBack_41 : decode cX7_howBack 41 = .ok (.getfield 38, 3) := by decide +kernel
theorem dX7_howBack_44 : decode cX7_howBack 44 = .ok (.iload_n 2, 1) := by decide +kernel
theorem dX7_howBack_45 : decode cX7_howBack 45 = .ok (.iaload, 1) := by decide +kernel
theorem dX7_howBack_46 : decode cX7_howBack 46 = .ok (.aload_n 0, 1) := by decide +kernel
theorem dX7_howBack_47 : decode cX7_howBack 47 = .ok (.getfield 44, 3) := by decide +kernel
theorem dX7_howBack_50 : decode cX7_howBack 50 = .ok (.iload_n 2, 1) := by decide +kernel
theorem dX7_howBack_51 : decode cX7_howBack 51 = .ok (.iaload, 1) := by decide +kernel
theorem dX7_howBack_52 : decode cX7_howBack 52 = .ok (.if_icmp .ne 7, 3) := by decide +kernel
theorem dX7_howBack_55 : decode cX7_howBack 55 = .ok (.iconst 1, 1) := by decide +kernel
theorem dX7_howBack_56 : decode cX7_howBack 56 = .ok (.goto 4, 3) := by decide +kernel
theorem dX7_howBack_59 : decode cX7_howBack 59 = .ok (.iconst 0, 1) := by decide +kernel
theorem dX7_howBack_60 : decode cX7_howBack 60 = .ok (.istore_n 1, 1) := by decide +kernel
theorem dX7_howBack_61 : decode cX7_howBack 61 = .ok (.iinc 2 1, 3) := by decide +kernel
theorem dX7_howBack_64 : decode cX7_howBack 64 = .ok (.goto (-36), 3) := by decide +kernel
theorem dX7_howBack_67 : decode cX7_howBack 67 = .ok (.iload_n 1, 1) := by decide +kernel
theorem dX7_howBack_68 : decode cX7_howBack 68 = .ok (.ifCond .eq 7, 3) := by decide +kernel
theorem dX7_howBack_71 : decode cX7_howBack 71 = .ok (.iconst 0, 1) := by decide +kernel
theorem dX7_howBack_72 : decode cX7_howBack 72 = .ok (.goto 4, 3) := by decide +kernel
theorem dX7_howBack_75 : decode cX7_howBack 75 = .ok (.iconst 1, 1) := by decide +kernel
theorem dX7_howBack_76 : decode cX7_howBack 76 = .ok (.ireturn, 1) := by decide +kernel
theorem dX7_keepText_0 : decode cX7_keepText 0 = .ok (.aload_n 0, 1) := by decide +kernel
theorem dX7_keepText_1 : decode cX7_keepText 1 = .ok (.invokevirtual 111, 3) := by decide +kernel
theorem dX7_keepText_4 : decode cX7_keepText 4 = .ok (.aload_n 0, 1) := by decide +kernel
theorem dX7_keepText_5 : decode cX7_keepText 5 = .ok (.aload_n 0, 1) := by decide +kernel
theorem dX7_keepText_6 : decode cX7_keepText 6 = .ok (.getfield 31, 3) := by decide +kernel
theorem dX7_keepText_9 : decode cX7_keepText 9 = .ok (.putfield 139, 3) := by decide +kernel
theorem dX7_keepText_12 : decode cX7_keepText 12 = .ok (.iconst 0, 1) := by decide +kernel
theorem dX7_keepText_13 : decode cX7_keepText 13 = .ok (.istore_n 1, 1) := by decide +kernel
theorem dX7_keepText_14 : decode cX7_keepText 14 = .ok (.iload_n 1, 1) := by decide +kernel
theorem dX7_keepText_15 : decode cX7_keepText 15 = .ok (.aload_n 0, 1) := by decide +kernel
theorem dX7_keepText_16 : decode cX7_keepText 16 = .ok (.getfield 31, 3) := by decide +kernel
theorem dX7_keepText_19 : decode cX7_keepText 19 = .ok (.if_icmp .ge 21, 3) := by decide +kernel
theorem dX7_keepText_22 : decode cX7_keepText 22 = .ok (.aload_n 0, 1) := by decide +kernel
theorem dX7_keepText_23 : decode cX7_keepText 23 = .ok (.getfield 44, 3) := by decide +kernel
theorem dX7_keepText_26 : decode cX7_keepText 26 = .ok (.iload_n 1, 1) := by decide +kernel
theorem dX7_keepText_27 : decode cX7_keepText 27 = .ok (.aload_n 0, 1) := by decide +kernel
theorem dX7_keepText_28 : decode cX7_keepText 28 = .ok (.getfield 35, 3) := by decide +kernel
theorem dX7_keepText_31 : decode cX7_keepText 31 = .ok (.iload_n 1, 1) := by decide +kernel
theorem dX7_keepText_32 : decode cX7_keepText 32 = .ok (.iaload, 1) := by decide +kernel
theorem dX7_keepText_33 : decode cX7_keepText 33 = .ok (.iastore, 1) := by decide +kernel
theorem dX7_keepText_34 : decode cX7_keepText 34 = .ok (.iinc 1 1, 3) := by decide +kernel
theorem dX7_keepText_37 : decode cX7_keepText 37 = .ok (.goto (-23), 3) := by decide +kernel
theorem dX7_keepText_40 : decode cX7_keepText 40 = .ok (.return_, 1) := by decide +kernel
theorem dX7_spills_0 : decode cX7_spills 0 = .ok (.iload_n 1, 1) := by decide +kernel
theorem dX7_spills_1 : decode cX7_spills 1 = .ok (.iconst 0, 1) := by decide +kernel
theorem dX7_spills_2 : decode cX7_spills 2 = .ok (.aload_n 0, 1) := by decide +kernel
theorem dX7_spills_3 : decode cX7_spills 3 = .ok (.getfield 84, 3) := by decide +kernel
theorem dX7_spills_6 : decode cX7_spills 6 = .ok (.iconst 1, 1) := by decide +kernel
theorem dX7_spills_7 : decode cX7_spills 7 = .ok (.isub, 1) := by decide +kernel
theorem dX7_spills_8 : decode cX7_spills 8 = .ok (.invokestatic 63, 3) := by decide +kernel
theorem dX7_spills_11 : decode cX7_spills 11 = .ok (.ifCond .ne 6, 3) := by decide +kernel
theorem dX7_spills_14 : decode cX7_spills 14 = .ok (.bipush (-2), 2) := by decide +kernel
theorem dX7_spills_16 : decode cX7_spills 16 = .ok (.ireturn, 1) := by decide +kernel
theorem dX7_spills_17 : decode cX7_spills 17 = .ok (.aload_n 0, 1) := by decide +kernel
theorem dX7_spills_18 : decode cX7_spills 18 = .ok (.invokevirtual 142, 3) := by decide +kernel
theorem dX7_spills_21 : decode cX7_spills 21 = .ok (.aload_n 0, 1) := by decide +kernel
theorem dX7_spills_22 : decode cX7_spills 22 = .ok (.aload_n 0, 1) := by decide +kernel
theorem dX7_spills_23 : decode cX7_spills 23 = .ok (.getfield 84, 3) := by decide +kernel
theorem dX7_spills_26 : decode cX7_spills 26 = .ok (.iload_n 1, 1) := by decide +kernel
theorem dX7_spills_27 : decode cX7_spills 27 = .ok (.invokevirtual 114, 3) := by decide +kernel
theorem dX7_spills_30 : decode cX7_spills 30 = .ok (.istore_n 2, 1) := by decide +kernel
theorem dX7_spills_31 : decode cX7_spills 31 = .ok (.iload_n 2, 1) := by decide +kernel
theorem dX7_spills_32 : decode cX7_spills 32 = .ok (.ifCond .ge 7, 3) := by decide +kernel
theorem dX7_spills_35 : decode cX7_spills 35 = .ok (.iload_n 2, 1) := by decide +kernel
theorem dX7_spills_36 : decode cX7_spills 36 = .ok (.goto 7, 3) := by decide +kernel
theorem dX7_spills_39 : decode cX7_spills 39 = .ok (.aload_n 0, 1) := by decide +kernel
theorem dX7_spills_40 : decode cX7_spills 40 = .ok (.invokevirtual 145, 3) := by decide +kernel
theorem dX7_spills_43 : decode cX7_spills 43 = .ok (.ireturn, 1) := by decide +kernel
theorem dX7_isRow_0 : decode cX7_isRow 0 = .ok (.aload_n 0, 1) := by decide +kernel
theorem dX7_isRow_1 : decode cX7_isRow 1 = .ok (.getfield 67, 3) := by decide +kernel
theorem dX7_isRow_4 : decode cX7_isRow 4 = .ok (.iconst 1, 1) := by decide +kernel
theorem dX7_isRow_5 : decode cX7_isRow 5 = .ok (.iconst 5, 1) := by decide +kernel
theorem dX7_isRow_6 : decode cX7_isRow 6 = .ok (.invokestatic 63, 3) := by decide +kernel
theorem dX7_isRow_9 : decode cX7_isRow 9 = .ok (.istore_n 1, 1) := by decide +kernel
theorem dX7_isRow_10 : decode cX7_isRow 10 = .ok (.iconst 0, 1) := by decide +kernel
theorem dX7_isRow_11 : decode cX7_isRow 11 = .ok (.istore_n 2, 1) := by decide +kernel
theorem dX7_isRow_12 : decode cX7_isRow 12 = .ok (.iload_n 2, 1) := by decide +kernel
theorem dX7_isRow_13 : decode cX7_isRow 13 = .ok (.aload_n 0, 1) := by decide +kernel
theorem dX7_isRow_14 : decode cX7_isRow 14 = .ok (.getfield 67, 3) := by decide +kernel
theorem dX7_isRow_17 : decode cX7_isRow 17 = .ok (.if_icmp .ge 51, 3) := by decide +kernel
theorem dX7_isRow_20 : decode cX7_isRow 20 = .ok (.iload_n 1, 1) := by decide +kernel
theorem dX7_isRow_21 : decode cX7_isRow 21 = .ok (.ifCond .eq 47, 3) := by decide +kernel
theorem dX7_isRow_24 : decode cX7_isRow 24 = .ok (.iconst 0, 1) := by decide +kernel
theorem dX7_isRow_25 : decode cX7_isRow 25 = .ok (.istore_n 3, 1) := by decide +kernel
theorem dX7_isRow_26 : decode cX7_isRow 26 = .ok (.iload_n 3, 1) := by decide +kernel
theorem dX7_isRow_27 : decode cX7_isRow 27 = .ok (.iload_n 2, 1) := by decide +kernel
theorem dX7_isRow_28 : decode cX7_isRow 28 = .ok (.if_icmp .ge 34, 3) := by decide +kernel
theorem dX7_isRow_31 : decode cX7_isRow 31 = .ok (.iload_n 1, 1) := by decide +kernel
theorem dX7_isRow_32 : decode cX7_isRow 32 = .ok (.ifCond .eq 22, 3) := by decide +kernel
theorem dX7_isRow_35 : decode cX7_isRow 35 = .ok (.aload_n 0, 1) := by decide +kernel
theorem dX7_isRow_36 : decode cX7_isRow 36 = .ok (.getfield 7, 3) := by decide +kernel
theorem dX7_isRow_39 : decode cX7_isRow 39 = .ok (.iload_n 3, 1) := by decide +kernel
theorem dX7_isRow_40 : decode cX7_isRow 40 = .ok (.iaload, 1) := by decide +kernel
theorem dX7_isRow_41 : decode cX7_isRow 41 = .ok (.aload_n 0, 1) := by decide +kernel
theorem dX7_isRow_42 : decode cX7_isRow 42 = .ok (.getfield 7, 3) := by decide +kernel
theorem dX7_isRow_45 : decode cX7_isRow 45 = .ok (.iload_n 2, 1) := by decide +kernel
theorem dX7_isRow_46 : decode cX7_isRow 46 = .ok (.iaload, 1) := by decide +kernel
theorem dX7_isRow_47 : decode cX7_isRow 47 = .ok (.if_icmp .eq 7, 3) := by decide +kernel
theorem dX7_isRow_50 : decode cX7_isRow 50 = .ok (.iconst 1, 1) := by decide +kernel
theorem dX7_isRow_51 : decode cX7_isRow 51 = .ok (.goto 4, 3) := by decide +kernel
theorem dX7_isRow_54 : decode cX7_isRow 54 = .ok (.iconst 0, 1) := by decide +kernel
theorem dX7_isRow_55 : decode cX7_isRow 55 = .ok (.istore_n 1, 1) := by decide +kernel
theorem dX7_isRow_56 : decode cX7_isRow 56 = .ok (.iinc 3 1, 3) := by decide +kernel
theorem dX7_isRow_59 : decode cX7_isRow 59 = .ok (.goto (-33), 3) := by decide +kernel
theorem dX7_isRow_62 : decode cX7_isRow 62 = .ok (.iinc 2 1, 3) := by decide +kernel
theorem dX7_isRow_65 : decode cX7_isRow 65 = .ok (.goto (-53), 3) := by decide +kernel
theorem dX7_isRow_68 : decode cX7_isRow 68 = .ok (.iload_n 1, 1) := by decide +kernel
theorem dX7_isRow_69 : decode cX7_isRow 69 = .ok (.ireturn, 1) := by decide +kernel
theorem dX7_spill_0 : decode cX7_spill 0 = .ok (.iload_n 1, 1) := by decide +kernel
theorem dX7_spill_1 : decode cX7_spill 1 = .ok (.iconst 0, 1) := by decide +kernel
theorem dX7_spill_2 : decode cX7_spill 2 = .ok (.aload_n 0, 1) := by decide +kernel
theorem dX7_spill_3 : decode cX7_spill 3 = .ok (.getfield 84, 3) := by decide +kernel
theorem dX7_spill_6 : decode cX7_spill 6 = .ok (.iconst 1, 1) := by decide +kernel
theorem dX7_spill_7 : decode cX7_spill 7 = .ok (.isub, 1) := by decide +kernel
theorem dX7_spill_8 : decode cX7_spill 8 = .ok (.invokestatic 63, 3) := by decide +kernel
theorem dX7_spill_11 : decode cX7_spill 11 = .ok (.ifCond .ne 6, 3) := by decide +kernel
theorem dX7_spill_14 : decode cX7_spill 14 = .ok (.bipush (-2), 2) := by decide +kernel
theorem dX7_spill_16 : decode cX7_spill 16 = .ok (.ireturn, 1) := by decide +kernel
theorem dX7_spill_17 : decode cX7_spill 17 = .ok (.aload_n 0, 1) := by decide +kernel
theorem dX7_spill_18 : decode cX7_spill 18 = .ok (.invokevirtual 148, 3) := by decide +kernel
theorem dX7_spill_21 : decode cX7_spill 21 = .ok (.ifCond .ne 6, 3) := by decide +kernel
theorem dX7_spill_24 : decode cX7_spill 24 = .ok (.bipush (-3), 2) := by decide +kernel
theorem dX7_spill_26 : decode cX7_spill 26 = .ok (.ireturn, 1) := by decide +kernel
theorem dX7_spill_27 : decode cX7_spill 27 = .ok (.iconst 1, 1) := by decide +kernel
theorem dX7_spill_28 : decode cX7_spill 28 = .ok (.istore_n 3, 1) := by decide +kernel
theorem dX7_spill_29 : decode cX7_spill 29 = .ok (.iconst 1, 1) := by decide +kernel
theorem dX7_spill_30 : decode cX7_spill 30 = .ok (.istore 4, 2) := by decide +kernel
theorem dX7_spill_32 : decode cX7_spill 32 = .ok (.iload 4, 2) := by decide +kernel
theorem dX7_spill_34 : decode cX7_spill 34 = .ok (.iconst 5, 1) := by decide +kernel
theorem dX7_spill_35 : decode cX7_spill 35 = .ok (.if_icmp .ge 159, 3) := by decide +kernel
theorem dX7_spill_38 : decode cX7_spill 38 = .ok (.iload_n 3, 1) := by decide +kernel
theorem dX7_spill_39 : decode cX7_spill 39 = .ok (.aload_n 0, 1) := by decide +kernel
theorem dX7_spill_40 : decode cX7_spill 40 = .ok (.getfield 67, 3) := by decide +kernel
theorem dX7_spill_43 : decode cX7_spill 43 = .ok (.imul, 1) := by decide +kernel
theorem dX7_spill_44 : decode cX7_spill 44 = .ok (.istore_n 3, 1) := by decide +kernel
theorem dX7_spill_45 : decode cX7_spill 45 = .ok (.iconst 0, 1) := by decide +kernel
theorem dX7_spill_46 : decode cX7_spill 46 = .ok (.istore 5, 2) := by decide +kernel
theorem dX7_spill_48 : decode cX7_spill 48 = .ok (.iload 5, 2) := by decide +kernel
theorem dX7_spill_50 : decode cX7_spill 50 = .ok (.iload_n 3, 1) := by decide +kernel
theorem dX7_spill_51 : decode cX7_spill 51 = .ok (.if_icmp .ge 137, 3) := by decide +kernel
theorem dX7_spill_54 : decode cX7_spill 54 = .ok (.iload 5, 2) := by decide +kernel
theorem dX7_spill_56 : decode cX7_spill 56 = .ok (.istore 6, 2) := by decide +kernel
theorem dX7_spill_58 : decode cX7_spill 58 = .ok (.iload 4, 2) := by decide +kernel
theorem dX7_spill_60 : decode cX7_spill 60 = .ok (.iconst 1, 1) := by decide +kernel
theorem dX7_spill_61 : decode cX7_spill 61 = .ok (.isub, 1) := by decide +kernel
theorem dX7_spill_62 : decode cX7_spill 62 = .ok (.istore 7, 2) := by decide +kernel
theorem dX7_spill_64 : decode cX7_spill 64 = .ok (.iload 7, 2) := by decide +kernel
theorem dX7_spill_66 : decode cX7_spill 66 = .ok (.ifCond .lt 51, 3) := by decide +kernel
theorem dX7_spill_69 : decode cX7_spill 69 = .ok (.aload_n 0, 1) := by decide +kernel
theorem dX7_spill_70 : decode cX7_spill 70 = .ok (.getfield 44, 3) := by decide +kernel
theorem dX7_spill_73 : decode cX7_spill 73 = .ok (.iload 7, 2) := by decide +kernel
theorem dX7_spill_75 : decode cX7_spill 75 = .ok (.aload_n 0, 1) := by decide +kernel
theorem dX7_spill_76 : decode cX7_spill 76 = .ok (.getfield 7, 3) := by decide +kernel
theorem dX7_spill_79 : decode cX7_spill 79 = .ok (.iload 6, 2) := by decide +kernel
theorem dX7_spill_81 : decode cX7_spill 81 = .ok (.aload_n 0, 1) := by decide +kernel
theorem dX7_spill_82 : decode cX7_spill 82 = .ok (.getfield 67, 3) := by decide +kernel
theorem dX7_spill_85 : decode cX7_spill 85 = .ok (.irem, 1) := by decide +kernel
theorem dX7_spill_86 : decode cX7_spill 86 = .ok (.iaload, 1) := by decide +kernel
theorem dX7_spill_87 : decode cX7_spill 87 = .ok (.iastore, 1) := by decide +kernel
theorem dX7_spill_88 : decode cX7_spill 88 = .ok (.aload_n 0, 1) := by decide +kernel
theorem dX7_spill_89 : decode cX7_spill 89 = .ok (.getfield 38, 3) := by decide +kernel
theorem dX7_spill_92 : decode cX7_spill 92 = .ok (.iload 7, 2) := by decide +kernel
theorem dX7_spill_94 : decode cX7_spill 94 = .ok (.aload_n 0, 1) := by decide +kernel
theorem dX7_spill_95 : decode cX7_spill 95 = .ok (.getfield 44, 3) := by decide +kernel
theorem dX7_spill_98 : decode cX7_spill 98 = .ok (.iload 7, 2) := by decide +kernel
theorem dX7_spill_100 : decode cX7_spill 100 = .ok (.iaload, 1) := by decide +kernel
theorem dX7_spill_101 : decode cX7_spill 101 = .ok (.iastore, 1) := by decide +kernel
theorem dX7_spill_102 : decode cX7_spill 102 = .ok (.iload 6, 2) := by decide +kernel
theorem dX7_spill_104 : decode cX7_spill 104 = .ok (.aload_n 0, 1) := by decide +kernel
theorem dX7_spill_105 : decode cX7_spill 105 = .ok (.getfield 67, 3) := by decide +kernel
theorem dX7_spill_108 : decode cX7_spill 108 = .ok (.idiv, 1) := by decide +kernel
theorem dX7_spill_109 : decode cX7_spill 109 = .ok (.istore 6, 2) := by decide +kernel
theorem dX7_spill_111 : decode cX7_spill 111 = .ok (.iinc 7 (-1), 3) := by decide +kernel
theorem dX7_spill_114 : decode cX7_spill 114 = .ok (.goto (-50), 3) := by decide +kernel
theorem dX7_spill_117 : decode cX7_spill 117 = .ok (.aload_n 0, 1) := by decide +kernel
theorem dX7_spill_118 : decode cX7_spill 118 = .ok (.iload 4, 2) := by decide +kernel
theorem dX7_spill_120 : decode cX7_spill 120 = .ok (.putfield 139, 3) := by decide +kernel
theorem dX7_spill_123 : decode cX7_spill 123 = .ok (.aload_n 0, 1) := by decide +kernel
theorem dX7_spill_124 : decode cX7_spill 124 = .ok (.iload 4, 2) := by decide +kernel
theorem dX7_spill_126 : decode cX7_spill 126 = .ok (.putfield 94, 3) := by decide +kernel
theorem dX7_spill_129 : decode cX7_spill 129 = .ok (.aload_n 0, 1) := by decide +kernel
theorem dX7_spill_130 : decode cX7_spill 130 = .ok (.aload_n 0, 1) := by decide +kernel
theorem dX7_spill_131 : decode cX7_spill 131 = .ok (.getfield 84, 3) := by decide +kernel
theorem dX7_spill_134 : decode cX7_spill 134 = .ok (.iload_n 1, 1) := by decide +kernel
theorem dX7_spill_135 : decode cX7_spill 135 = .ok (.invokevirtual 114, 3) := by decide +kernel
theorem dX7_spill_138 : decode cX7_spill 138 = .ok (.ifCond .ne 44, 3) := by decide +kernel
theorem dX7_spill_141 : decode cX7_spill 141 = .ok (.aload_n 0, 1) := by decide +kernel
theorem dX7_spill_142 : decode cX7_spill 142 = .ok (.invokevirtual 145, 3) := by decide +kernel
theorem dX7_spill_145 : decode cX7_spill 145 = .ok (.ifCond .le 37, 3) := by decide +kernel
theorem dX7_spill_148 : decode cX7_spill 148 = .ok (.iload_n 2, 1) := by decide +kernel
theorem dX7_spill_149 : decode cX7_spill 149 = .ok (.iconst (-1), 1) := by decide +kernel
theorem dX7_spill_150 : decode cX7_spill 150 = .ok (.if_icmp .ne 8, 3) := by decide +kernel
theorem dX7_spill_153 : decode cX7_spill 153 = .ok (.iload 4, 2) := by decide +kernel
theorem dX7_spill_155 : decode cX7_spill 155 = .ok (.goto 26, 3) := by decide +kernel
theorem dX7_spill_158 : decode cX7_spill 158 = .ok (.iload_n 2, 1) := by decide +kernel
theorem dX7_spill_159 : decode cX7_spill 159 = .ok (.iconst 0, 1) := by decide +kernel
theorem dX7_spill_160 : decode cX7_spill 160 = .ok (.iload 4, 2) := by decide +kernel
theorem dX7_spill_162 : decode cX7_spill 162 = .ok (.iconst 1, 1) := by decide +kernel
theorem dX7_spill_163 : decode cX7_spill 163 = .ok (.isub, 1) := by decide +kernel
theorem dX7_spill_164 : decode cX7_spill 164 = .ok (.invokestatic 63, 3) := by decide +kernel
theorem dX7_spill_167 : decode cX7_spill 167 = .ok (.ifCond .eq 12, 3) := by decide +kernel
theorem dX7_spill_170 : decode cX7_spill 170 = .ok (.aload_n 0, 1) := by decide +kernel
theorem dX7_spill_171 : decode cX7_spill 171 = .ok (.getfield 44, 3) := by decide +kernel
theorem dX7_spill_174 : decode cX7_spill 174 = .ok (.iload_n 2, 1) := by decide +kernel
theorem dX7_spill_175 : decode cX7_spill 175 = .ok (.iaload, 1) := by decide +kernel
theorem dX7_spill_176 : decode cX7_spill 176 = .ok (.goto 5, 3) := by decide +kernel
theorem dX7_spill_179 : decode cX7_spill 179 = .ok (.bipush (-6), 2) := by decide +kernel
theorem dX7_spill_181 : decode cX7_spill 181 = .ok (.ireturn, 1) := by decide +kernel
theorem dX7_spill_182 : decode cX7_spill 182 = .ok (.iinc 5 1, 3) := by decide +kernel
theorem dX7_spill_185 : decode cX7_spill 185 = .ok (.goto (-137), 3) := by decide +kernel
theorem dX7_spill_188 : decode cX7_spill 188 = .ok (.iinc 4 1, 3) := by decide +kernel
theorem dX7_spill_191 : decode cX7_spill 191 = .ok (.goto (-159), 3) := by decide +kernel
theorem dX7_spill_194 : decode cX7_spill 194 = .ok (.bipush (-6), 2) := by decide +kernel
theorem dX7_spill_196 : decode cX7_spill 196 = .ok (.ireturn, 1) := by decide +kernel
theorem dX7_twice_0 : decode cX7_twice 0 = .ok (.iload_n 1, 1) := by decide +kernel
theorem dX7_twice_1 : decode cX7_twice 1 = .ok (.iconst 0, 1) := by decide +kernel
theorem dX7_twice_2 : decode cX7_twice 2 = .ok (.aload_n 0, 1) := by decide +kernel
theorem dX7_twice_3 : decode cX7_twice 3 = .ok (.getfield 84, 3) := by decide +kernel
theorem dX7_twice_6 : decode cX7_twice 6 = .ok (.iconst 1, 1) := by decide +kernel
theorem dX7_twice_7 : decode cX7_twice 7 = .ok (.isub, 1) := by decide +kernel
theorem dX7_twice_8 : decode cX7_twice 8 = .ok (.invokestatic 63, 3) := by decide +kernel
theorem dX7_twice_11 : decode cX7_twice 11 = .ok (.ifCond .ne 6, 3) := by decide +kernel
theorem dX7_twice_14 : decode cX7_twice 14 = .ok (.bipush (-2), 2) := by decide +kernel
theorem dX7_twice_16 : decode cX7_twice 16 = .ok (.ireturn, 1) := by decide +kernel
theorem dX7_twice_17 : decode cX7_twice 17 = .ok (.aload_n 0, 1) := by decide +kernel
theorem dX7_twice_18 : decode cX7_twice 18 = .ok (.invokevirtual 142, 3) := by decide +kernel
theorem dX7_twice_21 : decode cX7_twice 21 = .ok (.iconst 0, 1) := by decide +kernel
theorem dX7_twice_22 : decode cX7_twice 22 = .ok (.istore_n 2, 1) := by decide +kernel
theorem dX7_twice_23 : decode cX7_twice 23 = .ok (.iload_n 2, 1) := by decide +kernel
theorem dX7_twice_24 : decode cX7_twice 24 = .ok (.aload_n 0, 1) := by decide +kernel
theorem dX7_twice_25 : decode cX7_twice 25 = .ok (.getfield 84, 3) := by decide +kernel
theorem dX7_twice_28 : decode cX7_twice 28 = .ok (.if_icmp .ge 52, 3) := by decide +kernel
theorem dX7_twice_31 : decode cX7_twice 31 = .ok (.aload_n 0, 1) := by decide +kernel
theorem dX7_twice_32 : decode cX7_twice 32 = .ok (.aload_n 0, 1) := by decide +kernel
theorem dX7_twice_33 : decode cX7_twice 33 = .ok (.getfield 28, 3) := by decide +kernel
theorem dX7_twice_36 : decode cX7_twice 36 = .ok (.iload_n 2, 1) := by decide +kernel
theorem dX7_twice_37 : decode cX7_twice 37 = .ok (.iaload, 1) := by decide +kernel
theorem dX7_twice_38 : decode cX7_twice 38 = .ok (.iconst 0, 1) := by decide +kernel
theorem dX7_twice_39 : decode cX7_twice 39 = .ok (.invokevirtual 107, 3) := by decide +kernel
theorem dX7_twice_42 : decode cX7_twice 42 = .ok (.istore_n 3, 1) := by decide +kernel
theorem dX7_twice_43 : decode cX7_twice 43 = .ok (.iload_n 3, 1) := by decide +kernel
theorem dX7_twice_44 : decode cX7_twice 44 = .ok (.ifCond .ne 22, 3) := by decide +kernel
theorem dX7_twice_47 : decode cX7_twice 47 = .ok (.iload_n 2, 1) := by decide +kernel
theorem dX7_twice_48 : decode cX7_twice 48 = .ok (.iload_n 1, 1) := by decide +kernel
theorem dX7_twice_49 : decode cX7_twice 49 = .ok (.if_icmp .ne 17, 3) := by decide +kernel
theorem dX7_twice_52 : decode cX7_twice 52 = .ok (.aload_n 0, 1) := by decide +kernel
theorem dX7_twice_53 : decode cX7_twice 53 = .ok (.aload_n 0, 1) := by decide +kernel
theorem dX7_twice_54 : decode cX7_twice 54 = .ok (.getfield 28, 3) := by decide +kernel
theorem dX7_twice_57 : decode cX7_twice 57 = .ok (.iload_n 2, 1) := by decide +kernel
theorem dX7_twice_58 : decode cX7_twice 58 = .ok (.iaload, 1) := by decide +kernel
theorem dX7_twice_59 : decode cX7_twice 59 = .ok (.iconst 0, 1) := by decide +kernel
theorem dX7_twice_60 : decode cX7_twice 60 = .ok (.invokevirtual 107, 3) := by decide +kernel
theorem dX7_twice_63 : decode cX7_twice 63 = .ok (.goto 4, 3) := by decide +kernel
theorem dX7_twice_66 : decode cX7_twice 66 = .ok (.iload_n 3, 1) := by decide +kernel
theorem dX7_twice_67 : decode cX7_twice 67 = .ok (.istore_n 3, 1) := by decide +kernel
theorem dX7_twice_68 : decode cX7_twice 68 = .ok (.iload_n 3, 1) := by decide +kernel
theorem dX7_twice_69 : decode cX7_twice 69 = .ok (.ifCond .ge 5, 3) := by decide +kernel
theorem dX7_twice_72 : decode cX7_twice 72 = .ok (.iload_n 3, 1) := by decide +kernel
theorem dX7_twice_73 : decode cX7_twice 73 = .ok (.ireturn, 1) := by decide +kernel
theorem dX7_twice_74 : decode cX7_twice 74 = .ok (.iinc 2 1, 3) := by decide +kernel
theorem dX7_twice_77 : decode cX7_twice 77 = .ok (.goto (-54), 3) := by decide +kernel
theorem dX7_twice_80 : decode cX7_twice 80 = .ok (.aload_n 0, 1) := by decide +kernel
theorem dX7_twice_81 : decode cX7_twice 81 = .ok (.invokevirtual 145, 3) := by decide +kernel
theorem dX7_twice_84 : decode cX7_twice 84 = .ok (.ireturn, 1) := by decide +kernel
theorem dX7_isAsAtFirst_0 : decode cX7_isAsAtFirst 0 = .ok (.aload_n 0, 1) := by decide +kernel
theorem dX7_isAsAtFirst_1 : decode cX7_isAsAtFirst 1 = .ok (.iload_n 1, 1) := by decide +kernel
theorem dX7_isAsAtFirst_2 : decode cX7_isAsAtFirst 2 = .ok (.invokevirtual 87, 3) := by decide +kernel
theorem dX7_isAsAtFirst_5 : decode cX7_isAsAtFirst 5 = .ok (.ifCond .ne 25, 3) := by decide +kernel
theorem dX7_isAsAtFirst_8 : decode cX7_isAsAtFirst 8 = .ok (.aload_n 0, 1) := by decide +kernel
theorem dX7_isAsAtFirst_9 : decode cX7_isAsAtFirst 9 = .ok (.getfield 16, 3) := by decide +kernel
theorem dX7_isAsAtFirst_12 : decode cX7_isAsAtFirst 12 = .ok (.iload_n 1, 1) := by decide +kernel
theorem dX7_isAsAtFirst_13 : decode cX7_isAsAtFirst 13 = .ok (.iaload, 1) := by decide +kernel
theorem dX7_isAsAtFirst_14 : decode cX7_isAsAtFirst 14 = .ok (.ifCond .ne 16, 3) := by decide +kernel
theorem dX7_isAsAtFirst_17 : decode cX7_isAsAtFirst 17 = .ok (.aload_n 0, 1) := by decide +kernel
theorem dX7_isAsAtFirst_18 : decode cX7_isAsAtFirst 18 = .ok (.getfield 22, 3) := by decide +kernel
theorem dX7_isAsAtFirst_21 : decode cX7_isAsAtFirst 21 = .ok (.iload_n 1, 1) := by decide +kernel
theorem dX7_isAsAtFirst_22 : decode cX7_isAsAtFirst 22 = .ok (.iaload, 1) := by decide +kernel
theorem dX7_isAsAtFirst_23 : decode cX7_isAsAtFirst 23 = .ok (.ifCond .ne 7, 3) := by decide +kernel
theorem dX7_isAsAtFirst_26 : decode cX7_isAsAtFirst 26 = .ok (.iconst 1, 1) := by decide +kernel
theorem dX7_isAsAtFirst_27 : decode cX7_isAsAtFirst 27 = .ok (.goto 4, 3) := by decide +kernel
theorem dX7_isAsAtFirst_30 : decode cX7_isAsAtFirst 30 = .ok (.iconst 0, 1) := by decide +kernel
theorem dX7_isAsAtFirst_31 : decode cX7_isAsAtFirst 31 = .ok (.ireturn, 1) := by decide +kernel
theorem dX7_fitsRow_0 : decode cX7_fitsRow 0 = .ok (.aload_n 0, 1) := by decide +kernel
theorem dX7_fitsRow_1 : decode cX7_fitsRow 1 = .ok (.invokevirtual 133, 3) := by decide +kernel
theorem dX7_fitsRow_4 : decode cX7_fitsRow 4 = .ok (.iload_n 3, 1) := by decide +kernel
theorem dX7_fitsRow_5 : decode cX7_fitsRow 5 = .ok (.ifCond .lt 11, 3) := by decide +kernel
theorem dX7_fitsRow_8 : decode cX7_fitsRow 8 = .ok (.aload_n 0, 1) := by decide +kernel
theorem dX7_fitsRow_9 : decode cX7_fitsRow 9 = .ok (.iload_n 3, 1) := by decide +kernel
theorem dX7_fitsRow_10 : decode cX7_fitsRow 10 = .ok (.invokevirtual 130, 3) := by decide +kernel
theorem dX7_fitsRow_13 : decode cX7_fitsRow 13 = .ok (.ifCond .ge 7, 3) := by decide +kernel
theorem dX7_fitsRow_16 : decode cX7_fitsRow 16 = .ok (.iconst 1, 1) := by decide +kernel
theorem dX7_fitsRow_17 : decode cX7_fitsRow 17 = .ok (.goto 4, 3) := by decide +kernel
theorem dX7_fitsRow_20 : decode cX7_fitsRow 20 = .ok (.iconst 0, 1) := by decide +kernel
theorem dX7_fitsRow_21 : decode cX7_fitsRow 21 = .ok (.istore 4, 2) := by decide +kernel
theorem dX7_fitsRow_23 : decode cX7_fitsRow 23 = .ok (.iload 4, 2) := by decide +kernel
theorem dX7_fitsRow_25 : decode cX7_fitsRow 25 = .ok (.ifCond .eq 19, 3) := by decide +kernel
theorem dX7_fitsRow_28 : decode cX7_fitsRow 28 = .ok (.iload_n 2, 1) := by decide +kernel
theorem dX7_fitsRow_29 : decode cX7_fitsRow 29 = .ok (.ifCond .lt 11, 3) := by decide +kernel
theorem dX7_fitsRow_32 : decode cX7_fitsRow 32 = .ok (.aload_n 0, 1) := by decide +kernel
theorem dX7_fitsRow_33 : decode cX7_fitsRow 33 = .ok (.iload_n 2, 1) := by decide +kernel
theorem dX7_fitsRow_34 : decode cX7_fitsRow 34 = .ok (.invokevirtual 130, 3) := by decide +kernel
theorem dX7_fitsRow_37 : decode cX7_fitsRow 37 = .ok (.ifCond .ge 7, 3) := by decide +kernel
theorem dX7_fitsRow_40 : decode cX7_fitsRow 40 = .ok (.iconst 1, 1) := by decide +kernel
theorem dX7_fitsRow_41 : decode cX7_fitsRow 41 = .ok (.goto 4, 3) := by decide +kernel
theorem dX7_fitsRow_44 : decode cX7_fitsRow 44 = .ok (.iconst 0, 1) := by decide +kernel
theorem dX7_fitsRow_45 : decode cX7_fitsRow 45 = .ok (.istore 4, 2) := by decide +kernel
theorem dX7_fitsRow_47 : decode cX7_fitsRow 47 = .ok (.iload 4, 2) := by decide +kernel
theorem dX7_fitsRow_49 : decode cX7_fitsRow 49 = .ok (.ifCond .eq 15, 3) := by decide +kernel
theorem dX7_fitsRow_52 : decode cX7_fitsRow 52 = .ok (.aload_n 0, 1) := by decide +kernel
theorem dX7_fitsRow_53 : decode cX7_fitsRow 53 = .ok (.iload_n 1, 1) := by decide +kernel
theorem dX7_fitsRow_54 : decode cX7_fitsRow 54 = .ok (.invokevirtual 130, 3) := by decide +kernel
theorem dX7_fitsRow_57 : decode cX7_fitsRow 57 = .ok (.ifCond .ge 7, 3) := by decide +kernel
theorem dX7_fitsRow_60 : decode cX7_fitsRow 60 = .ok (.iconst 1, 1) := by decide +kernel
theorem dX7_fitsRow_61 : decode cX7_fitsRow 61 = .ok (.goto 4, 3) := by decide +kernel
theorem dX7_fitsRow_64 : decode cX7_fitsRow 64 = .ok (.iconst 0, 1) := by decide +kernel
theorem dX7_fitsRow_65 : decode cX7_fitsRow 65 = .ok (.ireturn, 1) := by decide +kernel
theorem dX7_rows_0 : decode cX7_rows 0 = .ok (.aload_n 0, 1) := by decide +kernel
theorem dX7_rows_1 : decode cX7_rows 1 = .ok (.getfield 67, 3) := by decide +kernel
theorem dX7_rows_4 : decode cX7_rows 4 = .ok (.ifCond .ne 6, 3) := by decide +kernel
theorem dX7_rows_7 : decode cX7_rows 7 = .ok (.bipush (-3), 2) := by decide +kernel
theorem dX7_rows_9 : decode cX7_rows 9 = .ok (.ireturn, 1) := by decide +kernel
theorem dX7_rows_10 : decode cX7_rows 10 = .ok (.iconst 0, 1) := by decide +kernel
theorem dX7_rows_11 : decode cX7_rows 11 = .ok (.istore_n 2, 1) := by decide +kernel
theorem dX7_rows_12 : decode cX7_rows 12 = .ok (.iconst 1, 1) := by decide +kernel
theorem dX7_rows_13 : decode cX7_rows 13 = .ok (.istore_n 3, 1) := by decide +kernel
theorem dX7_rows_14 : decode cX7_rows 14 = .ok (.iload_n 3, 1) := by decide +kernel
theorem dX7_rows_15 : decode cX7_rows 15 = .ok (.iconst 4, 1) := by decide +kernel
theorem dX7_rows_16 : decode cX7_rows 16 = .ok (.if_icmp .ge 232, 3) := by decide +kernel
theorem dX7_rows_19 : decode cX7_rows 19 = .ok (.iconst 0, 1) := by decide +kernel
theorem dX7_rows_20 : decode cX7_rows 20 = .ok (.istore 4, 2) := by decide +kernel
theorem dX7_rows_22 : decode cX7_rows 22 = .ok (.iload 4, 2) := by decide +kernel
theorem dX7_rows_24 : decode cX7_rows 24 = .ok (.bipush 125, 2) := by decide +kernel
theorem dX7_rows_26 : decode cX7_rows 26 = .ok (.if_icmp .ge 216, 3) := by decide +kernel
theorem dX7_rows_29 : decode cX7_rows 29 = .ok (.iload 4, 2) := by decide +kernel
theorem dX7_rows_31 : decode cX7_rows 31 = .ok (.bipush 25, 2) := by decide +kernel
theorem dX7_rows_33 : decode cX7_rows 33 = .ok (.idiv, 1) := by decide +kernel
theorem dX7_rows_34 : decode cX7_rows 34 = .ok (.istore 5, 2) := by decide +kernel
theorem dX7_rows_36 : decode cX7_rows 36 = .ok (.iload_n 3, 1) := by decide +kernel
theorem dX7_rows_37 : decode cX7_rows 37 = .ok (.iconst 1, 1) := by decide +kernel
theorem dX7_rows_38 : decode cX7_rows 38 = .ok (.if_icmp .le 12, 3) := by decide +kernel
theorem dX7_rows_41 : decode cX7_rows 41 = .ok (.iload 4, 2) := by decide +kernel
theorem dX7_rows_43 : decode cX7_rows 43 = .ok (.iconst 5, 1) := by decide +kernel
theorem dX7_rows_44 : decode cX7_rows 44 = .ok (.idiv, 1) := by decide +kernel
theorem dX7_rows_45 : decode cX7_rows 45 = .ok (.iconst 5, 1) := by decide +kernel
theorem dX7_rows_46 : decode cX7_rows 46 = .ok (.irem, 1) := by decide +kernel
theorem dX7_rows_47 : decode cX7_rows 47 = .ok (.goto 5, 3) := by decide +kernel
theorem dX7_rows_50 : decode cX7_rows 50 = .ok (.bipush (-6), 2) := by decide +kernel
theorem dX7_rows_52 : decode cX7_rows 52 = .ok (.istore 6, 2) := by decide +kernel
theorem dX7_rows_54 : decode cX7_rows 54 = .ok (.iload_n 3, 1) := by decide +kernel
theorem dX7_rows_55 : decode cX7_rows 55 = .ok (.iconst 2, 1) := by decide +kernel
theorem dX7_rows_56 : decode cX7_rows 56 = .ok (.if_icmp .le 10, 3) := by decide +kernel
theorem dX7_rows_59 : decode cX7_rows 59 = .ok (.iload 4, 2) := by decide +kernel
theorem dX7_rows_61 : decode cX7_rows 61 = .ok (.iconst 5, 1) := by decide +kernel
theorem dX7_rows_62 : decode cX7_rows 62 = .ok (.irem, 1) := by decide +kernel
theorem dX7_rows_63 : decode cX7_rows 63 = .ok (.goto 5, 3) := by decide +kernel
theorem dX7_rows_66 : decode cX7_rows 66 = .ok (.bipush (-6), 2) := by decide +kernel
theorem dX7_rows_68 : decode cX7_rows 68 = .ok (.istore 7, 2) := by decide +kernel
theorem dX7_rows_70 : decode cX7_rows 70 = .ok (.iload_n 3, 1) := by decide +kernel
theorem dX7_rows_71 : decode cX7_rows 71 = .ok (.iconst 1, 1) := by decide +kernel
theorem dX7_rows_72 : decode cX7_rows 72 = .ok (.if_icmp .ne 19, 3) := by decide +kernel
theorem dX7_rows_75 : decode cX7_rows 75 = .ok (.iload 4, 2) := by decide +kernel
theorem dX7_rows_77 : decode cX7_rows 77 = .ok (.bipush 25, 2) := by decide +kernel
theorem dX7_rows_79 : decode cX7_rows 79 = .ok (.irem, 1) := by decide +kernel
theorem dX7_rows_80 : decode cX7_rows 80 = .ok (.ifCond .ne 7, 3) := by decide +kernel
theorem dX7_rows_83 : decode cX7_rows 83 = .ok (.iconst 1, 1) := by decide +kernel
theorem dX7_rows_84 : decode cX7_rows 84 = .ok (.goto 24, 3) := by decide +kernel
theorem dX7_rows_87 : decode cX7_rows 87 = .ok (.iconst 0, 1) := by decide +kernel
theorem dX7_rows_88 : decode cX7_rows 88 = .ok (.goto 20, 3) := by decide +kernel
theorem dX7_rows_91 : decode cX7_rows 91 = .ok (.iload_n 3, 1) := by decide +kernel
theorem dX7_rows_92 : decode cX7_rows 92 = .ok (.iconst 3, 1) := by decide +kernel
theorem dX7_rows_93 : decode cX7_rows 93 = .ok (.if_icmp .eq 10, 3) := by decide +kernel
theorem dX7_rows_96 : decode cX7_rows 96 = .ok (.iload 4, 2) := by decide +kernel
theorem dX7_rows_98 : decode cX7_rows 98 = .ok (.iconst 5, 1) := by decide +kernel
theorem dX7_rows_99 : decode cX7_rows 99 = .ok (.irem, 1) := by decide +kernel
theorem dX7_rows_100 : decode cX7_rows 100 = .ok (.ifCond .ne 7, 3) := by decide +kernel
theorem dX7_rows_103 : decode cX7_rows 103 = .ok (.iconst 1, 1) := by decide +kernel
theorem dX7_rows_104 : decode cX7_rows 104 = .ok (.goto 4, 3) := by decide +kernel
theorem dX7_rows_107 : decode cX7_rows 107 = .ok (.iconst 0, 1) := by decide +kernel
theorem dX7_rows_108 : decode cX7_rows 108 = .ok (.istore 8, 2) := by decide +kernel
theorem dX7_rows_110 : decode cX7_rows 110 = .ok (.iload 8, 2) := by decide +kernel
theorem dX7_rows_112 : decode cX7_rows 112 = .ok (.ifCond .eq 44, 3) := by decide +kernel
theorem dX7_rows_115 : decode cX7_rows 115 = .ok (.aload_n 0, 1) := by decide +kernel
theorem dX7_rows_116 : decode cX7_rows 116 = .ok (.iload 5, 2) := by decide +kernel
theorem dX7_rows_118 : decode cX7_rows 118 = .ok (.invokevirtual 152, 3) := by decide +kernel
theorem dX7_rows_121 : decode cX7_rows 121 = .ok (.ifCond .ne 35, 3) := by decide +kernel
theorem dX7_rows_124 : decode cX7_rows 124 = .ok (.iload 6, 2) := by decide +kernel
theorem dX7_rows_126 : decode cX7_rows 126 = .ok (.ifCond .lt 12, 3) := by decide +kernel
theorem dX7_rows_129 : decode cX7_rows 129 = .ok (.aload_n 0, 1) := by decide +kernel
theorem dX7_rows_130 : decode cX7_rows 130 = .ok (.iload 6, 2) := by decide +kernel
theorem dX7_rows_132 : decode cX7_rows 132 = .ok (.invokevirtual 152, 3) := by decide +kernel
theorem dX7_rows_135 : decode cX7_rows 135 = .ok (.ifCond .ne 21, 3) := by decide +kernel
theorem dX7_rows_138 : decode cX7_rows 138 = .ok (.iload 7, 2) := by decide +kernel
theorem dX7_rows_140 : decode cX7_rows 140 = .ok (.ifCond .lt 12, 3) := by decide +kernel
theorem dX7_rows_143 : decode cX7_rows 143 = .ok (.aload_n 0, 1) := by decide +kernel
theorem dX7_rows_144 : decode cX7_rows 144 = .ok (.iload 7, 2) := by decide +kernel
theorem dX7_rows_146 : decode cX7_rows 146 = .ok (.invokevirtual 152, 3) := by decide +kernel
theorem dX7_rows_149 : decode cX7_rows 149 = .ok (.ifCond .ne 7, 3) := by decide +kernel
theorem dX7_rows_152 : decode cX7_rows 152 = .ok (.iconst 1, 1) := by decide +kernel
theorem dX7_rows_153 : decode cX7_rows 153 = .ok (.goto 4, 3) := by decide +kernel
theorem dX7_rows_156 : decode cX7_rows 156 = .ok (.iconst 0, 1) := by decide +kernel
theorem dX7_rows_157 : decode cX7_rows 157 = .ok (.istore 9, 2) := by decide +kernel
theorem dX7_rows_159 : decode cX7_rows 159 = .ok (.iload 9, 2) := by decide +kernel
theorem dX7_rows_161 : decode cX7_rows 161 = .ok (.ifCond .eq 75, 3) := by decide +kernel
theorem dX7_rows_164 : decode cX7_rows 164 = .ok (.aload_n 0, 1) := by decide +kernel
theorem dX7_rows_165 : decode cX7_rows 165 = .ok (.iload 5, 2) := by decide +kernel
theorem dX7_rows_167 : decode cX7_rows 167 = .ok (.iload 6, 2) := by decide +kernel
theorem dX7_rows_169 : decode cX7_rows 169 = .ok (.iload 7, 2) := by decide +kernel
theorem dX7_rows_171 : decode cX7_rows 171 = .ok (.invokevirtual 155, 3) := by decide +kernel
theorem dX7_rows_174 : decode cX7_rows 174 = .ok (.ifCond .eq 62, 3) := by decide +kernel
theorem dX7_rows_177 : decode cX7_rows 177 = .ok (.iload_n 2, 1) := by decide +kernel
theorem dX7_rows_178 : decode cX7_rows 178 = .ok (.iload_n 1, 1) := by decide +kernel
theorem dX7_rows_179 : decode cX7_rows 179 = .ok (.if_icmp .ne 54, 3) := by decide +kernel
theorem dX7_rows_182 : decode cX7_rows 182 = .ok (.iload_n 3, 1) := by decide +kernel
theorem dX7_rows_183 : decode cX7_rows 183 = .ok (.iconst 1, 1) := by decide +kernel
theorem dX7_rows_184 : decode cX7_rows 184 = .ok (.if_icmp .ne 11, 3) := by decide +kernel
theorem dX7_rows_187 : decode cX7_rows 187 = .ok (.bipush 10, 2) := by decide +kernel
theorem dX7_rows_189 : decode cX7_rows 189 = .ok (.iload 5, 2) := by decide +kernel
theorem dX7_rows_191 : decode cX7_rows 191 = .ok (.iadd, 1) := by decide +kernel
theorem dX7_rows_192 : decode cX7_rows 192 = .ok (.goto 40, 3) := by decide +kernel
theorem dX7_rows_195 : decode cX7_rows 195 = .ok (.iload_n 3, 1) := by decide +kernel
theorem dX7_rows_196 : decode cX7_rows 196 = .ok (.iconst 2, 1) := by decide +kernel
theorem dX7_rows_197 : decode cX7_rows 197 = .ok (.if_icmp .ne 17, 3) := by decide +kernel
theorem dX7_rows_200 : decode cX7_rows 200 = .ok (.bipush 100, 2) := by decide +kernel
theorem dX7_rows_202 : decode cX7_rows 202 = .ok (.bipush 10, 2) := by decide +kernel
theorem dX7_rows_204 : decode cX7_rows 204 = .ok (.iload 5, 2) := by decide +kernel
theorem dX7_rows_206 : decode cX7_rows 206 = .ok (.imul, 1) := by decide +kernel
theorem dX7_rows_207 : decode cX7_rows 207 = .ok (.iadd, 1) := by decide +kernel
theorem dX7_rows_208 : decode cX7_rows 208 = .ok (.iload 6, 2) := by decide +kernel
theorem dX7_rows_210 : decode cX7_rows 210 = .ok (.iadd, 1) := by decide +kernel
theorem dX7_rows_211 : decode cX7_rows 211 = .ok (.goto 21, 3) := by decide +kernel
theorem dX7_rows_214 : decode cX7_rows 214 = .ok (.sipush 1000, 3) := by decide +kernel
theorem dX7_rows_217 : decode cX7_rows 217 = .ok (.bipush 100, 2) := by decide +kernel
theorem dX7_rows_219 : decode cX7_rows 219 = .ok (.iload 5, 2) := by decide +kernel
theorem dX7_rows_221 : decode cX7_rows 221 = .ok (.imul, 1) := by decide +kernel
theorem dX7_rows_222 : decode cX7_rows 222 = .ok (.iadd, 1) := by decide +kernel
theorem dX7_rows_223 : decode cX7_rows 223 = .ok (.bipush 10, 2) := by decide +kernel
theorem dX7_rows_225 : decode cX7_rows 225 = .ok (.iload 6, 2) := by decide +kernel
theorem dX7_rows_227 : decode cX7_rows 227 = .ok (.imul, 1) := by decide +kernel
theorem dX7_rows_228 : decode cX7_rows 228 = .ok (.iadd, 1) := by decide +kernel
theorem dX7_rows_229 : decode cX7_rows 229 = .ok (.iload 7, 2) := by decide +kernel
theorem dX7_rows_231 : decode cX7_rows 231 = .ok (.iadd, 1) := by decide +kernel
theorem dX7_rows_232 : decode cX7_rows 232 = .ok (.ireturn, 1) := by decide +kernel
theorem dX7_rows_233 : decode cX7_rows 233 = .ok (.iinc 2 1, 3) := by decide +kernel
theorem dX7_rows_236 : decode cX7_rows 236 = .ok (.iinc 4 1, 3) := by decide +kernel
theorem dX7_rows_239 : decode cX7_rows 239 = .ok (.goto (-217), 3) := by decide +kernel
theorem dX7_rows_242 : decode cX7_rows 242 = .ok (.iinc 3 1, 3) := by decide +kernel
theorem dX7_rows_245 : decode cX7_rows 245 = .ok (.goto (-231), 3) := by decide +kernel
theorem dX7_rows_248 : decode cX7_rows 248 = .ok (.iload_n 1, 1) := by decide +kernel
theorem dX7_rows_249 : decode cX7_rows 249 = .ok (.iconst (-1), 1) := by decide +kernel
theorem dX7_rows_250 : decode cX7_rows 250 = .ok (.if_icmp .ne 7, 3) := by decide +kernel
theorem dX7_rows_253 : decode cX7_rows 253 = .ok (.iload_n 2, 1) := by decide +kernel
theorem dX7_rows_254 : decode cX7_rows 254 = .ok (.goto 5, 3) := by decide +kernel
theorem dX7_rows_257 : decode cX7_rows 257 = .ok (.bipush (-6), 2) := by decide +kernel
theorem dX7_rows_259 : decode cX7_rows 259 = .ok (.ireturn, 1) := by decide +kernel
theorem dX7_nextOrder_0 : decode cX7_nextOrder 0 = .ok (.aload_n 0, 1) := by decide +kernel
theorem dX7_nextOrder_1 : decode cX7_nextOrder 1 = .ok (.getfield 84, 3) := by decide +kernel
theorem dX7_nextOrder_4 : decode cX7_nextOrder 4 = .ok (.iconst 2, 1) := by decide +kernel
theorem dX7_nextOrder_5 : decode cX7_nextOrder 5 = .ok (.isub, 1) := by decide +kernel
theorem dX7_nextOrder_6 : decode cX7_nextOrder 6 = .ok (.istore_n 1, 1) := by decide +kernel
theorem dX7_nextOrder_7 : decode cX7_nextOrder 7 = .ok (.iload_n 1, 1) := by decide +kernel
theorem dX7_nextOrder_8 : decode cX7_nextOrder 8 = .ok (.ifCond .lt 26, 3) := by decide +kernel
theorem dX7_nextOrder_11 : decode cX7_nextOrder 11 = .ok (.aload_n 0, 1) := by decide +kernel
theorem dX7_nextOrder_12 : decode cX7_nextOrder 12 = .ok (.getfield 47, 3) := by decide +kernel
theorem dX7_nextOrder_15 : decode cX7_nextOrder 15 = .ok (.iload_n 1, 1) := by decide +kernel
theorem dX7_nextOrder_16 : decode cX7_nextOrder 16 = .ok (.iaload, 1) := by decide +kernel
theorem dX7_nextOrder_17 : decode cX7_nextOrder 17 = .ok (.aload_n 0, 1) := by decide +kernel
theorem dX7_nextOrder_18 : decode cX7_nextOrder 18 = .ok (.getfield 47, 3) := by decide +kernel
theorem dX7_nextOrder_21 : decode cX7_nextOrder 21 = .ok (.iload_n 1, 1) := by decide +kernel
theorem dX7_nextOrder_22 : decode cX7_nextOrder 22 = .ok (.iconst 1, 1) := by decide +kernel
theorem dX7_nextOrder_23 : decode cX7_nextOrder 23 = .ok (.iadd, 1) := by decide +kernel
theorem dX7_nextOrder_24 : decode cX7_nextOrder 24 = .ok (.iaload, 1) := by decide +kernel
theorem dX7_nextOrder_25 : decode cX7_nextOrder 25 = .ok (.if_icmp .le 9, 3) := by decide +kernel
theorem dX7_nextOrder_28 : decode cX7_nextOrder 28 = .ok (.iinc 1 (-1), 3) := by decide +kernel
theorem dX7_nextOrder_31 : decode cX7_nextOrder 31 = .ok (.goto (-24), 3) := by decide +kernel
theorem dX7_nextOrder_34 : decode cX7_nextOrder 34 = .ok (.iload_n 1, 1) := by decide +kernel
theorem dX7_nextOrder_35 : decode cX7_nextOrder 35 = .ok (.ifCond .ge 5, 3) := by decide +kernel
theorem dX7_nextOrder_38 : decode cX7_nextOrder 38 = .ok (.iconst 0, 1) := by decide +kernel
theorem dX7_nextOrder_39 : decode cX7_nextOrder 39 = .ok (.ireturn, 1) := by decide +kernel
theorem dX7_nextOrder_40 : decode cX7_nextOrder 40 = .ok (.aload_n 0, 1) := by decide +kernel
theorem dX7_nextOrder_41 : decode cX7_nextOrder 41 = .ok (.getfield 84, 3) := by decide +kernel
theorem dX7_nextOrder_44 : decode cX7_nextOrder 44 = .ok (.iconst 1, 1) := by decide +kernel
theorem dX7_nextOrder_45 : decode cX7_nextOrder 45 = .ok (.isub, 1) := by decide +kernel
theorem dX7_nextOrder_46 : decode cX7_nextOrder 46 = .ok (.istore_n 2, 1) := by decide +kernel
theorem dX7_nextOrder_47 : decode cX7_nextOrder 47 = .ok (.aload_n 0, 1) := by decide +kernel
theorem dX7_nextOrder_48 : decode cX7_nextOrder 48 = .ok (.getfield 47, 3) := by decide +kernel
theorem dX7_nextOrder_51 : decode cX7_nextOrder 51 = .ok (.iload_n 2, 1) := by decide +kernel
theorem dX7_nextOrder_52 : decode cX7_nextOrder 52 = .ok (.iaload, 1) := by decide +kernel
theorem dX7_nextOrder_53 : decode cX7_nextOrder 53 = .ok (.aload_n 0, 1) := by decide +kernel
theorem dX7_nextOrder_54 : decode cX7_nextOrder 54 = .ok (.getfield 47, 3) := by decide +kernel
theorem dX7_nextOrder_57 : decode cX7_nextOrder 57 = .ok (.iload_n 1, 1) := by decide +kernel
theorem dX7_nextOrder_58 : decode cX7_nextOrder 58 = .ok (.iaload, 1) := by decide +kernel
theorem dX7_nextOrder_59 : decode cX7_nextOrder 59 = .ok (.if_icmp .ge 9, 3) := by decide +kernel
theorem dX7_nextOrder_62 : decode cX7_nextOrder 62 = .ok (.iinc 2 (-1), 3) := by decide +kernel
theorem dX7_nextOrder_65 : decode cX7_nextOrder 65 = .ok (.goto (-18), 3) := by decide +kernel
theorem dX7_nextOrder_68 : decode cX7_nextOrder 68 = .ok (.aload_n 0, 1) := by decide +kernel
theorem dX7_nextOrder_69 : decode cX7_nextOrder 69 = .ok (.getfield 47, 3) := by decide +kernel
theorem dX7_nextOrder_72 : decode cX7_nextOrder 72 = .ok (.iload_n 1, 1) := by decide +kernel
theorem dX7_nextOrder_73 : decode cX7_nextOrder 73 = .ok (.iaload, 1) := by decide +kernel
theorem dX7_nextOrder_74 : decode cX7_nextOrder 74 = .ok (.istore_n 3, 1) := by decide +kernel
theorem dX7_nextOrder_75 : decode cX7_nextOrder 75 = .ok (.aload_n 0, 1) := by decide +kernel
theorem dX7_nextOrder_76 : decode cX7_nextOrder 76 = .ok (.getfield 47, 3) := by decide +kernel
theorem dX7_nextOrder_79 : decode cX7_nextOrder 79 = .ok (.iload_n 1, 1) := by decide +kernel
theorem dX7_nextOrder_80 : decode cX7_nextOrder 80 = .ok (.aload_n 0, 1) := by decide +kernel
theorem dX7_nextOrder_81 : decode cX7_nextOrder 81 = .ok (.getfield 47, 3) := by decide +kernel
theorem dX7_nextOrder_84 : decode cX7_nextOrder 84 = .ok (.iload_n 2, 1) := by decide +kernel
theorem dX7_nextOrder_85 : decode cX7_nextOrder 85 = .ok (.iaload, 1) := by decide +kernel
theorem dX7_nextOrder_86 : decode cX7_nextOrder 86 = .ok (.iastore, 1) := by decide +kernel
theorem dX7_nextOrder_87 : decode cX7_nextOrder 87 = .ok (.aload_n 0, 1) := by decide +kernel
theorem dX7_nextOrder_88 : decode cX7_nextOrder 88 = .ok (.getfield 47, 3) := by decide +kernel
theorem dX7_nextOrder_91 : decode cX7_nextOrder 91 = .ok (.iload_n 2, 1) := by decide +kernel
theorem dX7_nextOrder_92 : decode cX7_nextOrder 92 = .ok (.iload_n 3, 1) := by decide +kernel
theorem dX7_nextOrder_93 : decode cX7_nextOrder 93 = .ok (.iastore, 1) := by decide +kernel
theorem dX7_nextOrder_94 : decode cX7_nextOrder 94 = .ok (.iload_n 1, 1) := by decide +kernel
theorem dX7_nextOrder_95 : decode cX7_nextOrder 95 = .ok (.iconst 1, 1) := by decide +kernel
theorem dX7_nextOrder_96 : decode cX7_nextOrder 96 = .ok (.iadd, 1) := by decide +kernel
theorem dX7_nextOrder_97 : decode cX7_nextOrder 97 = .ok (.istore 4, 2) := by decide +kernel
theorem dX7_nextOrder_99 : decode cX7_nextOrder 99 = .ok (.aload_n 0, 1) := by decide +kernel
theorem dX7_nextOrder_100 : decode cX7_nextOrder 100 = .ok (.getfield 84, 3) := by decide +kernel
theorem dX7_nextOrder_103 : decode cX7_nextOrder 103 = .ok (.iconst 1, 1) := by decide +kernel
theorem dX7_nextOrder_104 : decode cX7_nextOrder 104 = .ok (.isub, 1) := by decide +kernel
theorem dX7_nextOrder_105 : decode cX7_nextOrder 105 = .ok (.istore 5, 2) := by decide +kernel
theorem dX7_nextOrder_107 : decode cX7_nextOrder 107 = .ok (.iload 4, 2) := by decide +kernel
theorem dX7_nextOrder_109 : decode cX7_nextOrder 109 = .ok (.iload 5, 2) := by decide +kernel
theorem dX7_nextOrder_111 : decode cX7_nextOrder 111 = .ok (.if_icmp .ge 42, 3) := by decide +kernel
theorem dX7_nextOrder_114 : decode cX7_nextOrder 114 = .ok (.aload_n 0, 1) := by decide +kernel
theorem dX7_nextOrder_115 : decode cX7_nextOrder 115 = .ok (.getfield 47, 3) := by decide +kernel
theorem dX7_nextOrder_118 : decode cX7_nextOrder 118 = .ok (.iload 4, 2) := by decide +kernel
theorem dX7_nextOrder_120 : decode cX7_nextOrder 120 = .ok (.iaload, 1) := by decide +kernel
theorem dX7_nextOrder_121 : decode cX7_nextOrder 121 = .ok (.istore_n 3, 1) := by decide +kernel
theorem dX7_nextOrder_122 : decode cX7_nextOrder 122 = .ok (.aload_n 0, 1) := by decide +kernel
theorem dX7_nextOrder_123 : decode cX7_nextOrder 123 = .ok (.getfield 47, 3) := by decide +kernel
theorem dX7_nextOrder_126 : decode cX7_nextOrder 126 = .ok (.iload 4, 2) := by decide +kernel
theorem dX7_nextOrder_128 : decode cX7_nextOrder 128 = .ok (.aload_n 0, 1) := by decide +kernel
theorem dX7_nextOrder_129 : decode cX7_nextOrder 129 = .ok (.getfield 47, 3) := by decide +kernel
theorem dX7_nextOrder_132 : decode cX7_nextOrder 132 = .ok (.iload 5, 2) := by decide +kernel
theorem dX7_nextOrder_134 : decode cX7_nextOrder 134 = .ok (.iaload, 1) := by decide +kernel
theorem dX7_nextOrder_135 : decode cX7_nextOrder 135 = .ok (.iastore, 1) := by decide +kernel
theorem dX7_nextOrder_136 : decode cX7_nextOrder 136 = .ok (.aload_n 0, 1) := by decide +kernel
theorem dX7_nextOrder_137 : decode cX7_nextOrder 137 = .ok (.getfield 47, 3) := by decide +kernel
theorem dX7_nextOrder_140 : decode cX7_nextOrder 140 = .ok (.iload 5, 2) := by decide +kernel
theorem dX7_nextOrder_142 : decode cX7_nextOrder 142 = .ok (.iload_n 3, 1) := by decide +kernel
theorem dX7_nextOrder_143 : decode cX7_nextOrder 143 = .ok (.iastore, 1) := by decide +kernel
theorem dX7_nextOrder_144 : decode cX7_nextOrder 144 = .ok (.iinc 5 (-1), 3) := by decide +kernel
theorem dX7_nextOrder_147 : decode cX7_nextOrder 147 = .ok (.iinc 4 1, 3) := by decide +kernel
theorem dX7_nextOrder_150 : decode cX7_nextOrder 150 = .ok (.goto (-43), 3) := by decide +kernel
theorem dX7_nextOrder_153 : decode cX7_nextOrder 153 = .ok (.iconst 1, 1) := by decide +kernel
theorem dX7_nextOrder_154 : decode cX7_nextOrder 154 = .ok (.ireturn, 1) := by decide +kernel
theorem dX7_order_0 : decode cX7_order 0 = .ok (.iconst 0, 1) := by decide +kernel
theorem dX7_order_1 : decode cX7_order 1 = .ok (.istore_n 2, 1) := by decide +kernel
theorem dX7_order_2 : decode cX7_order 2 = .ok (.iload_n 2, 1) := by decide +kernel
theorem dX7_order_3 : decode cX7_order 3 = .ok (.iconst 5, 1) := by decide +kernel
theorem dX7_order_4 : decode cX7_order 4 = .ok (.if_icmp .ge 28, 3) := by decide +kernel
theorem dX7_order_7 : decode cX7_order 7 = .ok (.aload_n 0, 1) := by decide +kernel
theorem dX7_order_8 : decode cX7_order 8 = .ok (.getfield 47, 3) := by decide +kernel
theorem dX7_order_11 : decode cX7_order 11 = .ok (.iload_n 2, 1) := by decide +kernel
theorem dX7_order_12 : decode cX7_order 12 = .ok (.iload_n 2, 1) := by decide +kernel
theorem dX7_order_13 : decode cX7_order 13 = .ok (.iastore, 1) := by decide +kernel
theorem dX7_order_14 : decode cX7_order 14 = .ok (.aload_n 0, 1) := by decide +kernel
theorem dX7_order_15 : decode cX7_order 15 = .ok (.getfield 53, 3) := by decide +kernel
end
section
theorem dX7_order_18 : decode cX7_order 18 = .ok (.iload_n 2, 1) := by decide +kernel
theorem dX7_order_19 : decode cX7_order 19 = .ok (.aload_n 0, 1) := by decide +kernel
theorem dX7_order_20 : decode cX7_order 20 = .ok (.getfield 28, 3) := by decide +kernel
theorem dX7_order_23 : decode cX7_order 23 = .ok (.iload_n 2, 1) := by decide +kernel
theorem dX7_order_24 : decode cX7_order 24 = .ok (.iaload, 1) := by decide +kernel
theorem dX7_order_25 : decode cX7_order 25 = .ok (.iastore, 1) := by decide +kernel
theorem dX7_order_26 : decode cX7_order 26 = .ok (.iinc 2 1, 3) := by decide +kernel
theorem dX7_order_29 : decode cX7_order 29 = .ok (.goto (-27), 3) := by decide +kernel
theorem dX7_order_32 : decode cX7_order 32 = .ok (.bipush (-6), 2) := by decide +kernel
theorem dX7_order_34 : decode cX7_order 34 = .ok (.istore_n 2, 1) := by decide +kernel
theorem dX7_order_35 : decode cX7_order 35 = .ok (.aload_n 0, 1) := by decide +kernel
theorem dX7_order_36 : decode cX7_order 36 = .ok (.getfield 84, 3) := by decide +kernel
theorem dX7_order_39 : decode cX7_order 39 = .ok (.ifCond .le 7, 3) := by decide +kernel
theorem dX7_order_42 : decode cX7_order 42 = .ok (.iconst 1, 1) := by decide +kernel
theorem dX7_order_43 : decode cX7_order 43 = .ok (.goto 4, 3) := by decide +kernel
theorem dX7_order_46 : decode cX7_order 46 = .ok (.iconst 0, 1) := by decide +kernel
theorem dX7_order_47 : decode cX7_order 47 = .ok (.istore_n 3, 1) := by decide +kernel
theorem dX7_order_48 : decode cX7_order 48 = .ok (.iload_n 3, 1) := by decide +kernel
theorem dX7_order_49 : decode cX7_order 49 = .ok (.ifCond .eq 114, 3) := by decide +kernel
theorem dX7_order_52 : decode cX7_order 52 = .ok (.iconst 0, 1) := by decide +kernel
theorem dX7_order_53 : decode cX7_order 53 = .ok (.istore 4, 2) := by decide +kernel
theorem dX7_order_55 : decode cX7_order 55 = .ok (.iload 4, 2) := by decide +kernel
theorem dX7_order_57 : decode cX7_order 57 = .ok (.aload_n 0, 1) := by decide +kernel
theorem dX7_order_58 : decode cX7_order 58 = .ok (.getfield 84, 3) := by decide +kernel
theorem dX7_order_61 : decode cX7_order 61 = .ok (.if_icmp .ge 28, 3) := by decide +kernel
theorem dX7_order_64 : decode cX7_order 64 = .ok (.aload_n 0, 1) := by decide +kernel
theorem dX7_order_65 : decode cX7_order 65 = .ok (.getfield 28, 3) := by decide +kernel
theorem dX7_order_68 : decode cX7_order 68 = .ok (.iload 4, 2) := by decide +kernel
theorem dX7_order_70 : decode cX7_order 70 = .ok (.aload_n 0, 1) := by decide +kernel
theorem dX7_order_71 : decode cX7_order 71 = .ok (.getfield 53, 3) := by decide +kernel
theorem dX7_order_74 : decode cX7_order 74 = .ok (.aload_n 0, 1) := by decide +kernel
theorem dX7_order_75 : decode cX7_order 75 = .ok (.getfield 47, 3) := by decide +kernel
theorem dX7_order_78 : decode cX7_order 78 = .ok (.iload 4, 2) := by decide +kernel
theorem dX7_order_80 : decode cX7_order 80 = .ok (.iaload, 1) := by decide +kernel
theorem dX7_order_81 : decode cX7_order 81 = .ok (.iaload, 1) := by decide +kernel
theorem dX7_order_82 : decode cX7_order 82 = .ok (.iastore, 1) := by decide +kernel
theorem dX7_order_83 : decode cX7_order 83 = .ok (.iinc 4 1, 3) := by decide +kernel
theorem dX7_order_86 : decode cX7_order 86 = .ok (.goto (-31), 3) := by decide +kernel
theorem dX7_order_89 : decode cX7_order 89 = .ok (.aload_n 0, 1) := by decide +kernel
theorem dX7_order_90 : decode cX7_order 90 = .ok (.invokevirtual 111, 3) := by decide +kernel
theorem dX7_order_93 : decode cX7_order 93 = .ok (.aload_n 0, 1) := by decide +kernel
theorem dX7_order_94 : decode cX7_order 94 = .ok (.aload_n 0, 1) := by decide +kernel
theorem dX7_order_95 : decode cX7_order 95 = .ok (.getfield 84, 3) := by decide +kernel
theorem dX7_order_98 : decode cX7_order 98 = .ok (.bipush (-6), 2) := by decide +kernel
theorem dX7_order_100 : decode cX7_order 100 = .ok (.invokevirtual 114, 3) := by decide +kernel
theorem dX7_order_103 : decode cX7_order 103 = .ok (.ifCond .ne 52, 3) := by decide +kernel
theorem dX7_order_106 : decode cX7_order 106 = .ok (.iload_n 2, 1) := by decide +kernel
theorem dX7_order_107 : decode cX7_order 107 = .ok (.ifCond .lt 11, 3) := by decide +kernel
theorem dX7_order_110 : decode cX7_order 110 = .ok (.aload_n 0, 1) := by decide +kernel
theorem dX7_order_111 : decode cX7_order 111 = .ok (.getfield 94, 3) := by decide +kernel
theorem dX7_order_114 : decode cX7_order 114 = .ok (.iload_n 2, 1) := by decide +kernel
theorem dX7_order_115 : decode cX7_order 115 = .ok (.if_icmp .ge 40, 3) := by decide +kernel
theorem dX7_order_118 : decode cX7_order 118 = .ok (.aload_n 0, 1) := by decide +kernel
theorem dX7_order_119 : decode cX7_order 119 = .ok (.getfield 94, 3) := by decide +kernel
theorem dX7_order_122 : decode cX7_order 122 = .ok (.istore_n 2, 1) := by decide +kernel
theorem dX7_order_123 : decode cX7_order 123 = .ok (.iconst 0, 1) := by decide +kernel
theorem dX7_order_124 : decode cX7_order 124 = .ok (.istore 4, 2) := by decide +kernel
theorem dX7_order_126 : decode cX7_order 126 = .ok (.iload 4, 2) := by decide +kernel
theorem dX7_order_128 : decode cX7_order 128 = .ok (.aload_n 0, 1) := by decide +kernel
theorem dX7_order_129 : decode cX7_order 129 = .ok (.getfield 84, 3) := by decide +kernel
theorem dX7_order_132 : decode cX7_order 132 = .ok (.if_icmp .ge 23, 3) := by decide +kernel
theorem dX7_order_135 : decode cX7_order 135 = .ok (.aload_n 0, 1) := by decide +kernel
theorem dX7_order_136 : decode cX7_order 136 = .ok (.getfield 50, 3) := by decide +kernel
theorem dX7_order_139 : decode cX7_order 139 = .ok (.iload 4, 2) := by decide +kernel
theorem dX7_order_141 : decode cX7_order 141 = .ok (.aload_n 0, 1) := by decide +kernel
theorem dX7_order_142 : decode cX7_order 142 = .ok (.getfield 47, 3) := by decide +kernel
theorem dX7_order_145 : decode cX7_order 145 = .ok (.iload 4, 2) := by decide +kernel
theorem dX7_order_147 : decode cX7_order 147 = .ok (.iaload, 1) := by decide +kernel
theorem dX7_order_148 : decode cX7_order 148 = .ok (.iastore, 1) := by decide +kernel
theorem dX7_order_149 : decode cX7_order 149 = .ok (.iinc 4 1, 3) := by decide +kernel
theorem dX7_order_152 : decode cX7_order 152 = .ok (.goto (-26), 3) := by decide +kernel
theorem dX7_order_155 : decode cX7_order 155 = .ok (.aload_n 0, 1) := by decide +kernel
theorem dX7_order_156 : decode cX7_order 156 = .ok (.invokevirtual 158, 3) := by decide +kernel
theorem dX7_order_159 : decode cX7_order 159 = .ok (.istore_n 3, 1) := by decide +kernel
theorem dX7_order_160 : decode cX7_order 160 = .ok (.goto (-112), 3) := by decide +kernel
theorem dX7_order_163 : decode cX7_order 163 = .ok (.iconst 0, 1) := by decide +kernel
theorem dX7_order_164 : decode cX7_order 164 = .ok (.istore 4, 2) := by decide +kernel
theorem dX7_order_166 : decode cX7_order 166 = .ok (.iload 4, 2) := by decide +kernel
theorem dX7_order_168 : decode cX7_order 168 = .ok (.iconst 5, 1) := by decide +kernel
theorem dX7_order_169 : decode cX7_order 169 = .ok (.if_icmp .ge 23, 3) := by decide +kernel
theorem dX7_order_172 : decode cX7_order 172 = .ok (.aload_n 0, 1) := by decide +kernel
theorem dX7_order_173 : decode cX7_order 173 = .ok (.getfield 28, 3) := by decide +kernel
theorem dX7_order_176 : decode cX7_order 176 = .ok (.iload 4, 2) := by decide +kernel
theorem dX7_order_178 : decode cX7_order 178 = .ok (.aload_n 0, 1) := by decide +kernel
theorem dX7_order_179 : decode cX7_order 179 = .ok (.getfield 53, 3) := by decide +kernel
theorem dX7_order_182 : decode cX7_order 182 = .ok (.iload 4, 2) := by decide +kernel
theorem dX7_order_184 : decode cX7_order 184 = .ok (.iaload, 1) := by decide +kernel
theorem dX7_order_185 : decode cX7_order 185 = .ok (.iastore, 1) := by decide +kernel
theorem dX7_order_186 : decode cX7_order 186 = .ok (.iinc 4 1, 3) := by decide +kernel
theorem dX7_order_189 : decode cX7_order 189 = .ok (.goto (-23), 3) := by decide +kernel
theorem dX7_order_192 : decode cX7_order 192 = .ok (.iload_n 2, 1) := by decide +kernel
theorem dX7_order_193 : decode cX7_order 193 = .ok (.ifCond .lt 8, 3) := by decide +kernel
theorem dX7_order_196 : decode cX7_order 196 = .ok (.iload_n 1, 1) := by decide +kernel
theorem dX7_order_197 : decode cX7_order 197 = .ok (.iconst (-1), 1) := by decide +kernel
theorem dX7_order_198 : decode cX7_order 198 = .ok (.if_icmp .ne 7, 3) := by decide +kernel
theorem dX7_order_201 : decode cX7_order 201 = .ok (.iload_n 2, 1) := by decide +kernel
theorem dX7_order_202 : decode cX7_order 202 = .ok (.goto 28, 3) := by decide +kernel
theorem dX7_order_205 : decode cX7_order 205 = .ok (.iload_n 1, 1) := by decide +kernel
theorem dX7_order_206 : decode cX7_order 206 = .ok (.iconst 0, 1) := by decide +kernel
theorem dX7_order_207 : decode cX7_order 207 = .ok (.aload_n 0, 1) := by decide +kernel
theorem dX7_order_208 : decode cX7_order 208 = .ok (.getfield 84, 3) := by decide +kernel
theorem dX7_order_211 : decode cX7_order 211 = .ok (.iconst 1, 1) := by decide +kernel
theorem dX7_order_212 : decode cX7_order 212 = .ok (.isub, 1) := by decide +kernel
theorem dX7_order_213 : decode cX7_order 213 = .ok (.invokestatic 63, 3) := by decide +kernel
theorem dX7_order_216 : decode cX7_order 216 = .ok (.ifCond .eq 12, 3) := by decide +kernel
theorem dX7_order_219 : decode cX7_order 219 = .ok (.aload_n 0, 1) := by decide +kernel
theorem dX7_order_220 : decode cX7_order 220 = .ok (.getfield 50, 3) := by decide +kernel
theorem dX7_order_223 : decode cX7_order 223 = .ok (.iload_n 1, 1) := by decide +kernel
theorem dX7_order_224 : decode cX7_order 224 = .ok (.iaload, 1) := by decide +kernel
theorem dX7_order_225 : decode cX7_order 225 = .ok (.goto 5, 3) := by decide +kernel
theorem dX7_order_228 : decode cX7_order 228 = .ok (.bipush (-6), 2) := by decide +kernel
theorem dX7_order_230 : decode cX7_order 230 = .ok (.ireturn, 1) := by decide +kernel
theorem dX7_image_0 : decode cX7_image 0 = .ok (.iload_n 1, 1) := by decide +kernel
theorem dX7_image_1 : decode cX7_image 1 = .ok (.iconst 0, 1) := by decide +kernel
theorem dX7_image_2 : decode cX7_image 2 = .ok (.iconst 1, 1) := by decide +kernel
theorem dX7_image_3 : decode cX7_image 3 = .ok (.invokestatic 63, 3) := by decide +kernel
theorem dX7_image_6 : decode cX7_image 6 = .ok (.ifCond .ne 6, 3) := by decide +kernel
theorem dX7_image_9 : decode cX7_image 9 = .ok (.bipush (-2), 2) := by decide +kernel
theorem dX7_image_11 : decode cX7_image 11 = .ok (.ireturn, 1) := by decide +kernel
theorem dX7_image_12 : decode cX7_image 12 = .ok (.bipush 70, 2) := by decide +kernel
theorem dX7_image_14 : decode cX7_image 14 = .ok (.iload_n 1, 1) := by decide +kernel
theorem dX7_image_15 : decode cX7_image 15 = .ok (.imul, 1) := by decide +kernel
theorem dX7_image_16 : decode cX7_image 16 = .ok (.istore_n 2, 1) := by decide +kernel
theorem dX7_image_17 : decode cX7_image 17 = .ok (.iconst 0, 1) := by decide +kernel
theorem dX7_image_18 : decode cX7_image 18 = .ok (.istore_n 3, 1) := by decide +kernel
theorem dX7_image_19 : decode cX7_image 19 = .ok (.iload_n 3, 1) := by decide +kernel
theorem dX7_image_20 : decode cX7_image 20 = .ok (.iconst 5, 1) := by decide +kernel
theorem dX7_image_21 : decode cX7_image 21 = .ok (.if_icmp .ge 90, 3) := by decide +kernel
theorem dX7_image_24 : decode cX7_image 24 = .ok (.aload_n 0, 1) := by decide +kernel
theorem dX7_image_25 : decode cX7_image 25 = .ok (.getfield 56, 3) := by decide +kernel
theorem dX7_image_28 : decode cX7_image 28 = .ok (.iload_n 2, 1) := by decide +kernel
theorem dX7_image_29 : decode cX7_image 29 = .ok (.iload_n 3, 1) := by decide +kernel
theorem dX7_image_30 : decode cX7_image 30 = .ok (.iadd, 1) := by decide +kernel
theorem dX7_image_31 : decode cX7_image 31 = .ok (.aload_n 0, 1) := by decide +kernel
theorem dX7_image_32 : decode cX7_image 32 = .ok (.getfield 13, 3) := by decide +kernel
theorem dX7_image_35 : decode cX7_image 35 = .ok (.iload_n 3, 1) := by decide +kernel
theorem dX7_image_36 : decode cX7_image 36 = .ok (.iaload, 1) := by decide +kernel
theorem dX7_image_37 : decode cX7_image 37 = .ok (.iastore, 1) := by decide +kernel
theorem dX7_image_38 : decode cX7_image 38 = .ok (.aload_n 0, 1) := by decide +kernel
theorem dX7_image_39 : decode cX7_image 39 = .ok (.getfield 56, 3) := by decide +kernel
theorem dX7_image_42 : decode cX7_image 42 = .ok (.iload_n 2, 1) := by decide +kernel
theorem dX7_image_43 : decode cX7_image 43 = .ok (.iconst 5, 1) := by decide +kernel
theorem dX7_image_44 : decode cX7_image 44 = .ok (.iadd, 1) := by decide +kernel
theorem dX7_image_45 : decode cX7_image 45 = .ok (.iload_n 3, 1) := by decide +kernel
theorem dX7_image_46 : decode cX7_image 46 = .ok (.iadd, 1) := by decide +kernel
theorem dX7_image_47 : decode cX7_image 47 = .ok (.aload_n 0, 1) := by decide +kernel
theorem dX7_image_48 : decode cX7_image 48 = .ok (.getfield 16, 3) := by decide +kernel
theorem dX7_image_51 : decode cX7_image 51 = .ok (.iload_n 3, 1) := by decide +kernel
theorem dX7_image_52 : decode cX7_image 52 = .ok (.iaload, 1) := by decide +kernel
theorem dX7_image_53 : decode cX7_image 53 = .ok (.iastore, 1) := by decide +kernel
theorem dX7_image_54 : decode cX7_image 54 = .ok (.aload_n 0, 1) := by decide +kernel
theorem dX7_image_55 : decode cX7_image 55 = .ok (.getfield 56, 3) := by decide +kernel
theorem dX7_image_58 : decode cX7_image 58 = .ok (.iload_n 2, 1) := by decide +kernel
theorem dX7_image_59 : decode cX7_image 59 = .ok (.bipush 10, 2) := by decide +kernel
theorem dX7_image_61 : decode cX7_image 61 = .ok (.iadd, 1) := by decide +kernel
theorem dX7_image_62 : decode cX7_image 62 = .ok (.iload_n 3, 1) := by decide +kernel
theorem dX7_image_63 : decode cX7_image 63 = .ok (.iadd, 1) := by decide +kernel
theorem dX7_image_64 : decode cX7_image 64 = .ok (.aload_n 0, 1) := by decide +kernel
theorem dX7_image_65 : decode cX7_image 65 = .ok (.getfield 19, 3) := by decide +kernel
theorem dX7_image_68 : decode cX7_image 68 = .ok (.iload_n 3, 1) := by decide +kernel
theorem dX7_image_69 : decode cX7_image 69 = .ok (.iaload, 1) := by decide +kernel
theorem dX7_image_70 : decode cX7_image 70 = .ok (.iastore, 1) := by decide +kernel
theorem dX7_image_71 : decode cX7_image 71 = .ok (.aload_n 0, 1) := by decide +kernel
theorem dX7_image_72 : decode cX7_image 72 = .ok (.getfield 56, 3) := by decide +kernel
theorem dX7_image_75 : decode cX7_image 75 = .ok (.iload_n 2, 1) := by decide +kernel
theorem dX7_image_76 : decode cX7_image 76 = .ok (.bipush 15, 2) := by decide +kernel
theorem dX7_image_78 : decode cX7_image 78 = .ok (.iadd, 1) := by decide +kernel
theorem dX7_image_79 : decode cX7_image 79 = .ok (.iload_n 3, 1) := by decide +kernel
theorem dX7_image_80 : decode cX7_image 80 = .ok (.iadd, 1) := by decide +kernel
theorem dX7_image_81 : decode cX7_image 81 = .ok (.aload_n 0, 1) := by decide +kernel
theorem dX7_image_82 : decode cX7_image 82 = .ok (.getfield 22, 3) := by decide +kernel
theorem dX7_image_85 : decode cX7_image 85 = .ok (.iload_n 3, 1) := by decide +kernel
theorem dX7_image_86 : decode cX7_image 86 = .ok (.iaload, 1) := by decide +kernel
theorem dX7_image_87 : decode cX7_image 87 = .ok (.iastore, 1) := by decide +kernel
theorem dX7_image_88 : decode cX7_image 88 = .ok (.aload_n 0, 1) := by decide +kernel
theorem dX7_image_89 : decode cX7_image 89 = .ok (.getfield 56, 3) := by decide +kernel
theorem dX7_image_92 : decode cX7_image 92 = .ok (.iload_n 2, 1) := by decide +kernel
theorem dX7_image_93 : decode cX7_image 93 = .ok (.bipush 20, 2) := by decide +kernel
theorem dX7_image_95 : decode cX7_image 95 = .ok (.iadd, 1) := by decide +kernel
theorem dX7_image_96 : decode cX7_image 96 = .ok (.iload_n 3, 1) := by decide +kernel
theorem dX7_image_97 : decode cX7_image 97 = .ok (.iadd, 1) := by decide +kernel
theorem dX7_image_98 : decode cX7_image 98 = .ok (.aload_n 0, 1) := by decide +kernel
theorem dX7_image_99 : decode cX7_image 99 = .ok (.getfield 28, 3) := by decide +kernel
theorem dX7_image_102 : decode cX7_image 102 = .ok (.iload_n 3, 1) := by decide +kernel
theorem dX7_image_103 : decode cX7_image 103 = .ok (.iaload, 1) := by decide +kernel
theorem dX7_image_104 : decode cX7_image 104 = .ok (.iastore, 1) := by decide +kernel
theorem dX7_image_105 : decode cX7_image 105 = .ok (.iinc 3 1, 3) := by decide +kernel
theorem dX7_image_108 : decode cX7_image 108 = .ok (.goto (-89), 3) := by decide +kernel
theorem dX7_image_111 : decode cX7_image 111 = .ok (.iconst 0, 1) := by decide +kernel
theorem dX7_image_112 : decode cX7_image 112 = .ok (.istore_n 3, 1) := by decide +kernel
theorem dX7_image_113 : decode cX7_image 113 = .ok (.iload_n 3, 1) := by decide +kernel
theorem dX7_image_114 : decode cX7_image 114 = .ok (.bipush 30, 2) := by decide +kernel
theorem dX7_image_116 : decode cX7_image 116 = .ok (.if_icmp .ge 26, 3) := by decide +kernel
theorem dX7_image_119 : decode cX7_image 119 = .ok (.aload_n 0, 1) := by decide +kernel
theorem dX7_image_120 : decode cX7_image 120 = .ok (.getfield 56, 3) := by decide +kernel
theorem dX7_image_123 : decode cX7_image 123 = .ok (.iload_n 2, 1) := by decide +kernel
theorem dX7_image_124 : decode cX7_image 124 = .ok (.bipush 25, 2) := by decide +kernel
theorem dX7_image_126 : decode cX7_image 126 = .ok (.iadd, 1) := by decide +kernel
theorem dX7_image_127 : decode cX7_image 127 = .ok (.iload_n 3, 1) := by decide +kernel
theorem dX7_image_128 : decode cX7_image 128 = .ok (.iadd, 1) := by decide +kernel
theorem dX7_image_129 : decode cX7_image 129 = .ok (.aload_n 0, 1) := by decide +kernel
theorem dX7_image_130 : decode cX7_image 130 = .ok (.getfield 25, 3) := by decide +kernel
theorem dX7_image_133 : decode cX7_image 133 = .ok (.iload_n 3, 1) := by decide +kernel
theorem dX7_image_134 : decode cX7_image 134 = .ok (.iaload, 1) := by decide +kernel
theorem dX7_image_135 : decode cX7_image 135 = .ok (.iastore, 1) := by decide +kernel
theorem dX7_image_136 : decode cX7_image 136 = .ok (.iinc 3 1, 3) := by decide +kernel
theorem dX7_image_139 : decode cX7_image 139 = .ok (.goto (-26), 3) := by decide +kernel
theorem dX7_image_142 : decode cX7_image 142 = .ok (.iconst 0, 1) := by decide +kernel
theorem dX7_image_143 : decode cX7_image 143 = .ok (.istore_n 3, 1) := by decide +kernel
theorem dX7_image_144 : decode cX7_image 144 = .ok (.iload_n 3, 1) := by decide +kernel
theorem dX7_image_145 : decode cX7_image 145 = .ok (.bipush 12, 2) := by decide +kernel
theorem dX7_image_147 : decode cX7_image 147 = .ok (.if_icmp .ge 26, 3) := by decide +kernel
theorem dX7_image_150 : decode cX7_image 150 = .ok (.aload_n 0, 1) := by decide +kernel
theorem dX7_image_151 : decode cX7_image 151 = .ok (.getfield 56, 3) := by decide +kernel
theorem dX7_image_154 : decode cX7_image 154 = .ok (.iload_n 2, 1) := by decide +kernel
theorem dX7_image_155 : decode cX7_image 155 = .ok (.bipush 55, 2) := by decide +kernel
theorem dX7_image_157 : decode cX7_image 157 = .ok (.iadd, 1) := by decide +kernel
theorem dX7_image_158 : decode cX7_image 158 = .ok (.iload_n 3, 1) := by decide +kernel
theorem dX7_image_159 : decode cX7_image 159 = .ok (.iadd, 1) := by decide +kernel
theorem dX7_image_160 : decode cX7_image 160 = .ok (.aload_n 0, 1) := by decide +kernel
theorem dX7_image_161 : decode cX7_image 161 = .ok (.getfield 35, 3) := by decide +kernel
theorem dX7_image_164 : decode cX7_image 164 = .ok (.iload_n 3, 1) := by decide +kernel
theorem dX7_image_165 : decode cX7_image 165 = .ok (.iaload, 1) := by decide +kernel
theorem dX7_image_166 : decode cX7_image 166 = .ok (.iastore, 1) := by decide +kernel
theorem dX7_image_167 : decode cX7_image 167 = .ok (.iinc 3 1, 3) := by decide +kernel
theorem dX7_image_170 : decode cX7_image 170 = .ok (.goto (-26), 3) := by decide +kernel
theorem dX7_image_173 : decode cX7_image 173 = .ok (.aload_n 0, 1) := by decide +kernel
theorem dX7_image_174 : decode cX7_image 174 = .ok (.getfield 56, 3) := by decide +kernel
theorem dX7_image_177 : decode cX7_image 177 = .ok (.iload_n 2, 1) := by decide +kernel
theorem dX7_image_178 : decode cX7_image 178 = .ok (.bipush 67, 2) := by decide +kernel
theorem dX7_image_180 : decode cX7_image 180 = .ok (.iadd, 1) := by decide +kernel
theorem dX7_image_181 : decode cX7_image 181 = .ok (.aload_n 0, 1) := by decide +kernel
theorem dX7_image_182 : decode cX7_image 182 = .ok (.getfield 84, 3) := by decide +kernel
theorem dX7_image_185 : decode cX7_image 185 = .ok (.iastore, 1) := by decide +kernel
theorem dX7_image_186 : decode cX7_image 186 = .ok (.aload_n 0, 1) := by decide +kernel
theorem dX7_image_187 : decode cX7_image 187 = .ok (.getfield 56, 3) := by decide +kernel
theorem dX7_image_190 : decode cX7_image 190 = .ok (.iload_n 2, 1) := by decide +kernel
theorem dX7_image_191 : decode cX7_image 191 = .ok (.bipush 68, 2) := by decide +kernel
theorem dX7_image_193 : decode cX7_image 193 = .ok (.iadd, 1) := by decide +kernel
theorem dX7_image_194 : decode cX7_image 194 = .ok (.aload_n 0, 1) := by decide +kernel
theorem dX7_image_195 : decode cX7_image 195 = .ok (.getfield 31, 3) := by decide +kernel
theorem dX7_image_198 : decode cX7_image 198 = .ok (.iastore, 1) := by decide +kernel
theorem dX7_image_199 : decode cX7_image 199 = .ok (.aload_n 0, 1) := by decide +kernel
theorem dX7_image_200 : decode cX7_image 200 = .ok (.getfield 59, 3) := by decide +kernel
theorem dX7_image_203 : decode cX7_image 203 = .ok (.iload_n 1, 1) := by decide +kernel
theorem dX7_image_204 : decode cX7_image 204 = .ok (.iconst 1, 1) := by decide +kernel
theorem dX7_image_205 : decode cX7_image 205 = .ok (.bastore, 1) := by decide +kernel
theorem dX7_image_206 : decode cX7_image 206 = .ok (.iconst 1, 1) := by decide +kernel
theorem dX7_image_207 : decode cX7_image 207 = .ok (.ireturn, 1) := by decide +kernel
theorem dX7_restore_0 : decode cX7_restore 0 = .ok (.iload_n 1, 1) := by decide +kernel
theorem dX7_restore_1 : decode cX7_restore 1 = .ok (.iconst 0, 1) := by decide +kernel
theorem dX7_restore_2 : decode cX7_restore 2 = .ok (.iconst 1, 1) := by decide +kernel
theorem dX7_restore_3 : decode cX7_restore 3 = .ok (.invokestatic 63, 3) := by decide +kernel
theorem dX7_restore_6 : decode cX7_restore 6 = .ok (.ifCond .ne 6, 3) := by decide +kernel
theorem dX7_restore_9 : decode cX7_restore 9 = .ok (.bipush (-2), 2) := by decide +kernel
theorem dX7_restore_11 : decode cX7_restore 11 = .ok (.ireturn, 1) := by decide +kernel
theorem dX7_restore_12 : decode cX7_restore 12 = .ok (.aload_n 0, 1) := by decide +kernel
theorem dX7_restore_13 : decode cX7_restore 13 = .ok (.getfield 59, 3) := by decide +kernel
theorem dX7_restore_16 : decode cX7_restore 16 = .ok (.iload_n 1, 1) := by decide +kernel
theorem dX7_restore_17 : decode cX7_restore 17 = .ok (.baload, 1) := by decide +kernel
theorem dX7_restore_18 : decode cX7_restore 18 = .ok (.ifCond .ne 6, 3) := by decide +kernel
theorem dX7_restore_21 : decode cX7_restore 21 = .ok (.bipush (-3), 2) := by decide +kernel
theorem dX7_restore_23 : decode cX7_restore 23 = .ok (.ireturn, 1) := by decide +kernel
theorem dX7_restore_24 : decode cX7_restore 24 = .ok (.bipush 70, 2) := by decide +kernel
theorem dX7_restore_26 : decode cX7_restore 26 = .ok (.iload_n 1, 1) := by decide +kernel
theorem dX7_restore_27 : decode cX7_restore 27 = .ok (.imul, 1) := by decide +kernel
theorem dX7_restore_28 : decode cX7_restore 28 = .ok (.istore_n 2, 1) := by decide +kernel
theorem dX7_restore_29 : decode cX7_restore 29 = .ok (.iconst 0, 1) := by decide +kernel
theorem dX7_restore_30 : decode cX7_restore 30 = .ok (.istore_n 3, 1) := by decide +kernel
theorem dX7_restore_31 : decode cX7_restore 31 = .ok (.iload_n 3, 1) := by decide +kernel
theorem dX7_restore_32 : decode cX7_restore 32 = .ok (.iconst 5, 1) := by decide +kernel
theorem dX7_restore_33 : decode cX7_restore 33 = .ok (.if_icmp .ge 90, 3) := by decide +kernel
theorem dX7_restore_36 : decode cX7_restore 36 = .ok (.aload_n 0, 1) := by decide +kernel
theorem dX7_restore_37 : decode cX7_restore 37 = .ok (.getfield 13, 3) := by decide +kernel
theorem dX7_restore_40 : decode cX7_restore 40 = .ok (.iload_n 3, 1) := by decide +kernel
theorem dX7_restore_41 : decode cX7_restore 41 = .ok (.aload_n 0, 1) := by decide +kernel
theorem dX7_restore_42 : decode cX7_restore 42 = .ok (.getfield 56, 3) := by decide +kernel
theorem dX7_restore_45 : decode cX7_restore 45 = .ok (.iload_n 2, 1) := by decide +kernel
theorem dX7_restore_46 : decode cX7_restore 46 = .ok (.iload_n 3, 1) := by decide +kernel
theorem dX7_restore_47 : decode cX7_restore 47 = .ok (.iadd, 1) := by decide +kernel
theorem dX7_restore_48 : decode cX7_restore 48 = .ok (.iaload, 1) := by decide +kernel
theorem dX7_restore_49 : decode cX7_restore 49 = .ok (.iastore, 1) := by decide +kernel
theorem dX7_restore_50 : decode cX7_restore 50 = .ok (.aload_n 0, 1) := by decide +kernel
theorem dX7_restore_51 : decode cX7_restore 51 = .ok (.getfield 16, 3) := by decide +kernel
theorem dX7_restore_54 : decode cX7_restore 54 = .ok (.iload_n 3, 1) := by decide +kernel
theorem dX7_restore_55 : decode cX7_restore 55 = .ok (.aload_n 0, 1) := by decide +kernel
theorem dX7_restore_56 : decode cX7_restore 56 = .ok (.getfield 56, 3) := by decide +kernel
theorem dX7_restore_59 : decode cX7_restore 59 = .ok (.iload_n 2, 1) := by decide +kernel
theorem dX7_restore_60 : decode cX7_restore 60 = .ok (.iconst 5, 1) := by decide +kernel
theorem dX7_restore_61 : decode cX7_restore 61 = .ok (.iadd, 1) := by decide +kernel
theorem dX7_restore_62 : decode cX7_restore 62 = .ok (.iload_n 3, 1) := by decide +kernel
theorem dX7_restore_63 : decode cX7_restore 63 = .ok (.iadd, 1) := by decide +kernel
theorem dX7_restore_64 : decode cX7_restore 64 = .ok (.iaload, 1) := by decide +kernel
theorem dX7_restore_65 : decode cX7_restore 65 = .ok (.iastore, 1) := by decide +kernel
theorem dX7_restore_66 : decode cX7_restore 66 = .ok (.aload_n 0, 1) := by decide +kernel
theorem dX7_restore_67 : decode cX7_restore 67 = .ok (.getfield 19, 3) := by decide +kernel
theorem dX7_restore_70 : decode cX7_restore 70 = .ok (.iload_n 3, 1) := by decide +kernel
theorem dX7_restore_71 : decode cX7_restore 71 = .ok (.aload_n 0, 1) := by decide +kernel
theorem dX7_restore_72 : decode cX7_restore 72 = .ok (.getfield 56, 3) := by decide +kernel
theorem dX7_restore_75 : decode cX7_restore 75 = .ok (.iload_n 2, 1) := by decide +kernel
theorem dX7_restore_76 : decode cX7_restore 76 = .ok (.bipush 10, 2) := by decide +kernel
theorem dX7_restore_78 : decode cX7_restore 78 = .ok (.iadd, 1) := by decide +kernel
theorem dX7_restore_79 : decode cX7_restore 79 = .ok (.iload_n 3, 1) := by decide +kernel
theorem dX7_restore_80 : decode cX7_restore 80 = .ok (.iadd, 1) := by decide +kernel
theorem dX7_restore_81 : decode cX7_restore 81 = .ok (.iaload, 1) := by decide +kernel
theorem dX7_restore_82 : decode cX7_restore 82 = .ok (.iastore, 1) := by decide +kernel
theorem dX7_restore_83 : decode cX7_restore 83 = .ok (.aload_n 0, 1) := by decide +kernel
theorem dX7_restore_84 : decode cX7_restore 84 = .ok (.getfield 22, 3) := by decide +kernel
theorem dX7_restore_87 : decode cX7_restore 87 = .ok (.iload_n 3, 1) := by decide +kernel
theorem dX7_restore_88 : decode cX7_restore 88 = .ok (.aload_n 0, 1) := by decide +kernel
theorem dX7_restore_89 : decode cX7_restore 89 = .ok (.getfield 56, 3) := by decide +kernel
theorem dX7_restore_92 : decode cX7_restore 92 = .ok (.iload_n 2, 1) := by decide +kernel
theorem dX7_restore_93 : decode cX7_restore 93 = .ok (.bipush 15, 2) := by decide +kernel
theorem dX7_restore_95 : decode cX7_restore 95 = .ok (.iadd, 1) := by decide +kernel
theorem dX7_restore_96 : decode cX7_restore 96 = .ok (.iload_n 3, 1) := by decide +kernel
theorem dX7_restore_97 : decode cX7_restore 97 = .ok (.iadd, 1) := by decide +kernel
theorem dX7_restore_98 : decode cX7_restore 98 = .ok (.iaload, 1) := by decide +kernel
theorem dX7_restore_99 : decode cX7_restore 99 = .ok (.iastore, 1) := by decide +kernel
theorem dX7_restore_100 : decode cX7_restore 100 = .ok (.aload_n 0, 1) := by decide +kernel
theorem dX7_restore_101 : decode cX7_restore 101 = .ok (.getfield 28, 3) := by decide +kernel
theorem dX7_restore_104 : decode cX7_restore 104 = .ok (.iload_n 3, 1) := by decide +kernel
theorem dX7_restore_105 : decode cX7_restore 105 = .ok (.aload_n 0, 1) := by decide +kernel
theorem dX7_restore_106 : decode cX7_restore 106 = .ok (.getfield 56, 3) := by decide +kernel
theorem dX7_restore_109 : decode cX7_restore 109 = .ok (.iload_n 2, 1) := by decide +kernel
theorem dX7_restore_110 : decode cX7_restore 110 = .ok (.bipush 20, 2) := by decide +kernel
theorem dX7_restore_112 : decode cX7_restore 112 = .ok (.iadd, 1) := by decide +kernel
theorem dX7_restore_113 : decode cX7_restore 113 = .ok (.iload_n 3, 1) := by decide +kernel
theorem dX7_restore_114 : decode cX7_restore 114 = .ok (.iadd, 1) := by decide +kernel
theorem dX7_restore_115 : decode cX7_restore 115 = .ok (.iaload, 1) := by decide +kernel
theorem dX7_restore_116 : decode cX7_restore 116 = .ok (.iastore, 1) := by decide +kernel
theorem dX7_restore_117 : decode cX7_restore 117 = .ok (.iinc 3 1, 3) := by decide +kernel
theorem dX7_restore_120 : decode cX7_restore 120 = .ok (.goto (-89), 3) := by decide +kernel
theorem dX7_restore_123 : decode cX7_restore 123 = .ok (.iconst 0, 1) := by decide +kernel
theorem dX7_restore_124 : decode cX7_restore 124 = .ok (.istore_n 3, 1) := by decide +kernel
theorem dX7_restore_125 : decode cX7_restore 125 = .ok (.iload_n 3, 1) := by decide +kernel
theorem dX7_restore_126 : decode cX7_restore 126 = .ok (.bipush 30, 2) := by decide +kernel
theorem dX7_restore_128 : decode cX7_restore 128 = .ok (.if_icmp .ge 26, 3) := by decide +kernel
theorem dX7_restore_131 : decode cX7_restore 131 = .ok (.aload_n 0, 1) := by decide +kernel
theorem dX7_restore_132 : decode cX7_restore 132 = .ok (.getfield 25, 3) := by decide +kernel
theorem dX7_restore_135 : decode cX7_restore 135 = .ok (.iload_n 3, 1) := by decide +kernel
theorem dX7_restore_136 : decode cX7_restore 136 = .ok (.aload_n 0, 1) := by decide +kernel
theorem dX7_restore_137 : decode cX7_restore 137 = .ok (.getfield 56, 3) := by decide +kernel
theorem dX7_restore_140 : decode cX7_restore 140 = .ok (.iload_n 2, 1) := by decide +kernel
theorem dX7_restore_141 : decode cX7_restore 141 = .ok (.bipush 25, 2) := by decide +kernel
theorem dX7_restore_143 : decode cX7_restore 143 = .ok (.iadd, 1) := by decide +kernel
theorem dX7_restore_144 : decode cX7_restore 144 = .ok (.iload_n 3, 1) := by decide +kernel
theorem dX7_restore_145 : decode cX7_restore 145 = .ok (.iadd, 1) := by decide +kernel
theorem dX7_restore_146 : decode cX7_restore 146 = .ok (.iaload, 1) := by decide +kernel
theorem dX7_restore_147 : decode cX7_restore 147 = .ok (.iastore, 1) := by decide +kernel
theorem dX7_restore_148 : decode cX7_restore 148 = .ok (.iinc 3 1, 3) := by decide +kernel
theorem dX7_restore_151 : decode cX7_restore 151 = .ok (.goto (-26), 3) := by decide +kernel
theorem dX7_restore_154 : decode cX7_restore 154 = .ok (.iconst 0, 1) := by decide +kernel
theorem dX7_restore_155 : decode cX7_restore 155 = .ok (.istore_n 3, 1) := by decide +kernel
theorem dX7_restore_156 : decode cX7_restore 156 = .ok (.iload_n 3, 1) := by decide +kernel
theorem dX7_restore_157 : decode cX7_restore 157 = .ok (.bipush 12, 2) := by decide +kernel
theorem dX7_restore_159 : decode cX7_restore 159 = .ok (.if_icmp .ge 26, 3) := by decide +kernel
theorem dX7_restore_162 : decode cX7_restore 162 = .ok (.aload_n 0, 1) := by decide +kernel
theorem dX7_restore_163 : decode cX7_restore 163 = .ok (.getfield 35, 3) := by decide +kernel
theorem dX7_restore_166 : decode cX7_restore 166 = .ok (.iload_n 3, 1) := by decide +kernel
theorem dX7_restore_167 : decode cX7_restore 167 = .ok (.aload_n 0, 1) := by decide +kernel
theorem dX7_restore_168 : decode cX7_restore 168 = .ok (.getfield 56, 3) := by decide +kernel
theorem dX7_restore_171 : decode cX7_restore 171 = .ok (.iload_n 2, 1) := by decide +kernel
theorem dX7_restore_172 : decode cX7_restore 172 = .ok (.bipush 55, 2) := by decide +kernel
theorem dX7_restore_174 : decode cX7_restore 174 = .ok (.iadd, 1) := by decide +kernel
theorem dX7_restore_175 : decode cX7_restore 175 = .ok (.iload_n 3, 1) := by decide +kernel
theorem dX7_restore_176 : decode cX7_restore 176 = .ok (.iadd, 1) := by decide +kernel
theorem dX7_restore_177 : decode cX7_restore 177 = .ok (.iaload, 1) := by decide +kernel
theorem dX7_restore_178 : decode cX7_restore 178 = .ok (.iastore, 1) := by decide +kernel
theorem dX7_restore_179 : decode cX7_restore 179 = .ok (.iinc 3 1, 3) := by decide +kernel
theorem dX7_restore_182 : decode cX7_restore 182 = .ok (.goto (-26), 3) := by decide +kernel
theorem dX7_restore_185 : decode cX7_restore 185 = .ok (.aload_n 0, 1) := by decide +kernel
theorem dX7_restore_186 : decode cX7_restore 186 = .ok (.aload_n 0, 1) := by decide +kernel
theorem dX7_restore_187 : decode cX7_restore 187 = .ok (.getfield 56, 3) := by decide +kernel
theorem dX7_restore_190 : decode cX7_restore 190 = .ok (.iload_n 2, 1) := by decide +kernel
theorem dX7_restore_191 : decode cX7_restore 191 = .ok (.bipush 67, 2) := by decide +kernel
theorem dX7_restore_193 : decode cX7_restore 193 = .ok (.iadd, 1) := by decide +kernel
theorem dX7_restore_194 : decode cX7_restore 194 = .ok (.iaload, 1) := by decide +kernel
theorem dX7_restore_195 : decode cX7_restore 195 = .ok (.putfield 84, 3) := by decide +kernel
theorem dX7_restore_198 : decode cX7_restore 198 = .ok (.aload_n 0, 1) := by decide +kernel
theorem dX7_restore_199 : decode cX7_restore 199 = .ok (.aload_n 0, 1) := by decide +kernel
theorem dX7_restore_200 : decode cX7_restore 200 = .ok (.getfield 56, 3) := by decide +kernel
theorem dX7_restore_203 : decode cX7_restore 203 = .ok (.iload_n 2, 1) := by decide +kernel
theorem dX7_restore_204 : decode cX7_restore 204 = .ok (.bipush 68, 2) := by decide +kernel
theorem dX7_restore_206 : decode cX7_restore 206 = .ok (.iadd, 1) := by decide +kernel
theorem dX7_restore_207 : decode cX7_restore 207 = .ok (.iaload, 1) := by decide +kernel
theorem dX7_restore_208 : decode cX7_restore 208 = .ok (.putfield 31, 3) := by decide +kernel
theorem dX7_restore_211 : decode cX7_restore 211 = .ok (.iconst 1, 1) := by decide +kernel
theorem dX7_restore_212 : decode cX7_restore 212 = .ok (.ireturn, 1) := by decide +kernel
theorem dX7_told_0 : decode cX7_told 0 = .ok (.iload_n 1, 1) := by decide +kernel
theorem dX7_told_1 : decode cX7_told 1 = .ok (.bipush 10, 2) := by decide +kernel
theorem dX7_told_3 : decode cX7_told 3 = .ok (.bipush 14, 2) := by decide +kernel
theorem dX7_told_5 : decode cX7_told 5 = .ok (.invokestatic 63, 3) := by decide +kernel
theorem dX7_told_8 : decode cX7_told 8 = .ok (.ifCond .eq 29, 3) := by decide +kernel
theorem dX7_told_11 : decode cX7_told 11 = .ok (.iload_n 1, 1) := by decide +kernel
theorem dX7_told_12 : decode cX7_told 12 = .ok (.bipush 10, 2) := by decide +kernel
theorem dX7_told_14 : decode cX7_told 14 = .ok (.isub, 1) := by decide +kernel
theorem dX7_told_15 : decode cX7_told 15 = .ok (.aload_n 0, 1) := by decide +kernel
theorem dX7_told_16 : decode cX7_told 16 = .ok (.getfield 84, 3) := by decide +kernel
theorem dX7_told_19 : decode cX7_told 19 = .ok (.if_icmp .ge 15, 3) := by decide +kernel
theorem dX7_told_22 : decode cX7_told 22 = .ok (.aload_n 0, 1) := by decide +kernel
theorem dX7_told_23 : decode cX7_told 23 = .ok (.getfield 28, 3) := by decide +kernel
theorem dX7_told_26 : decode cX7_told 26 = .ok (.iload_n 1, 1) := by decide +kernel
theorem dX7_told_27 : decode cX7_told 27 = .ok (.bipush 10, 2) := by decide +kernel
theorem dX7_told_29 : decode cX7_told 29 = .ok (.isub, 1) := by decide +kernel
theorem dX7_told_30 : decode cX7_told 30 = .ok (.iaload, 1) := by decide +kernel
theorem dX7_told_31 : decode cX7_told 31 = .ok (.goto 5, 3) := by decide +kernel
theorem dX7_told_34 : decode cX7_told 34 = .ok (.bipush (-6), 2) := by decide +kernel
theorem dX7_told_36 : decode cX7_told 36 = .ok (.ireturn, 1) := by decide +kernel
theorem dX7_told_37 : decode cX7_told 37 = .ok (.iload_n 1, 1) := by decide +kernel
theorem dX7_told_38 : decode cX7_told 38 = .ok (.bipush 20, 2) := by decide +kernel
theorem dX7_told_40 : decode cX7_told 40 = .ok (.bipush 31, 2) := by decide +kernel
theorem dX7_told_42 : decode cX7_told 42 = .ok (.invokestatic 63, 3) := by decide +kernel
theorem dX7_told_45 : decode cX7_told 45 = .ok (.ifCond .eq 29, 3) := by decide +kernel
theorem dX7_told_48 : decode cX7_told 48 = .ok (.iload_n 1, 1) := by decide +kernel
theorem dX7_told_49 : decode cX7_told 49 = .ok (.bipush 20, 2) := by decide +kernel
theorem dX7_told_51 : decode cX7_told 51 = .ok (.isub, 1) := by decide +kernel
theorem dX7_told_52 : decode cX7_told 52 = .ok (.aload_n 0, 1) := by decide +kernel
theorem dX7_told_53 : decode cX7_told 53 = .ok (.getfield 31, 3) := by decide +kernel
theorem dX7_told_56 : decode cX7_told 56 = .ok (.if_icmp .ge 15, 3) := by decide +kernel
theorem dX7_told_59 : decode cX7_told 59 = .ok (.aload_n 0, 1) := by decide +kernel
theorem dX7_told_60 : decode cX7_told 60 = .ok (.getfield 35, 3) := by decide +kernel
theorem dX7_told_63 : decode cX7_told 63 = .ok (.iload_n 1, 1) := by decide +kernel
theorem dX7_told_64 : decode cX7_told 64 = .ok (.bipush 20, 2) := by decide +kernel
theorem dX7_told_66 : decode cX7_told 66 = .ok (.isub, 1) := by decide +kernel
theorem dX7_told_67 : decode cX7_told 67 = .ok (.iaload, 1) := by decide +kernel
theorem dX7_told_68 : decode cX7_told 68 = .ok (.goto 5, 3) := by decide +kernel
theorem dX7_told_71 : decode cX7_told 71 = .ok (.bipush (-6), 2) := by decide +kernel
theorem dX7_told_73 : decode cX7_told 73 = .ok (.ireturn, 1) := by decide +kernel
theorem dX7_told_74 : decode cX7_told 74 = .ok (.iload_n 1, 1) := by decide +kernel
theorem dX7_told_75 : decode cX7_told 75 = .ok (.ifCond .ne 10, 3) := by decide +kernel
theorem dX7_told_78 : decode cX7_told 78 = .ok (.aload_n 0, 1) := by decide +kernel
theorem dX7_told_79 : decode cX7_told 79 = .ok (.getfield 67, 3) := by decide +kernel
theorem dX7_told_82 : decode cX7_told 82 = .ok (.goto 29, 3) := by decide +kernel
theorem dX7_told_85 : decode cX7_told 85 = .ok (.iload_n 1, 1) := by decide +kernel
theorem dX7_told_86 : decode cX7_told 86 = .ok (.iconst 1, 1) := by decide +kernel
theorem dX7_told_87 : decode cX7_told 87 = .ok (.if_icmp .ne 10, 3) := by decide +kernel
theorem dX7_told_90 : decode cX7_told 90 = .ok (.aload_n 0, 1) := by decide +kernel
theorem dX7_told_91 : decode cX7_told 91 = .ok (.getfield 31, 3) := by decide +kernel
theorem dX7_told_94 : decode cX7_told 94 = .ok (.goto 17, 3) := by decide +kernel
theorem dX7_told_97 : decode cX7_told 97 = .ok (.iload_n 1, 1) := by decide +kernel
theorem dX7_told_98 : decode cX7_told 98 = .ok (.iconst 2, 1) := by decide +kernel
theorem dX7_told_99 : decode cX7_told 99 = .ok (.if_icmp .ne 10, 3) := by decide +kernel
theorem dX7_told_102 : decode cX7_told 102 = .ok (.aload_n 0, 1) := by decide +kernel
theorem dX7_told_103 : decode cX7_told 103 = .ok (.getfield 84, 3) := by decide +kernel
theorem dX7_told_106 : decode cX7_told 106 = .ok (.goto 5, 3) := by decide +kernel
theorem dX7_told_109 : decode cX7_told 109 = .ok (.bipush (-2), 2) := by decide +kernel
theorem dX7_told_111 : decode cX7_told 111 = .ok (.ireturn, 1) := by decide +kernel
theorem dL_law_0 : decode cL_law 0 = .ok (.new 7, 3) := by decide +kernel
theorem dL_law_3 : decode cL_law 3 = .ok (.dup, 1) := by decide +kernel
theorem dL_law_4 : decode cL_law 4 = .ok (.invokespecial 9, 3) := by decide +kernel
theorem dL_law_7 : decode cL_law 7 = .ok (.astore_n 1, 1) := by decide +kernel
theorem dL_law_8 : decode cL_law 8 = .ok (.new 10, 3) := by decide +kernel
theorem dL_law_11 : decode cL_law 11 = .ok (.dup, 1) := by decide +kernel
theorem dL_law_12 : decode cL_law 12 = .ok (.invokespecial 12, 3) := by decide +kernel
theorem dL_law_15 : decode cL_law 15 = .ok (.astore_n 2, 1) := by decide +kernel
theorem dL_law_16 : decode cL_law 16 = .ok (.iconst 0, 1) := by decide +kernel
theorem dL_law_17 : decode cL_law 17 = .ok (.istore_n 3, 1) := by decide +kernel
theorem dL_law_18 : decode cL_law 18 = .ok (.iload_n 3, 1) := by decide +kernel
theorem dL_law_19 : decode cL_law 19 = .ok (.aload_n 0, 1) := by decide +kernel
theorem dL_law_20 : decode cL_law 20 = .ok (.arraylength, 1) := by decide +kernel
theorem dL_law_21 : decode cL_law 21 = .ok (.iconst 3, 1) := by decide +kernel
theorem dL_law_22 : decode cL_law 22 = .ok (.isub, 1) := by decide +kernel
theorem dL_law_23 : decode cL_law 23 = .ok (.if_icmp .gt 595, 3) := by decide +kernel
theorem dL_law_26 : decode cL_law 26 = .ok (.aload_n 0, 1) := by decide +kernel
theorem dL_law_27 : decode cL_law 27 = .ok (.iload_n 3, 1) := by decide +kernel
theorem dL_law_28 : decode cL_law 28 = .ok (.iaload, 1) := by decide +kernel
theorem dL_law_29 : decode cL_law 29 = .ok (.bipush 31, 2) := by decide +kernel
theorem dL_law_31 : decode cL_law 31 = .ok (.iand, 1) := by decide +kernel
theorem dL_law_32 : decode cL_law 32 = .ok (.tableswitch 580 0 21 #[104, 127, 140, 153, 176, 209, 232, 245, 258, 291, 304, 327, 350, 363, 386, 409, 442, 465, 488, 511, 534, 557], 104) := by decide +kernel
theorem dL_law_136 : decode cL_law 136 = .ok (.aload_n 1, 1) := by decide +kernel
theorem dL_law_137 : decode cL_law 137 = .ok (.aload_n 0, 1) := by decide +kernel
theorem dL_law_138 : decode cL_law 138 = .ok (.iload_n 3, 1) := by decide +kernel
theorem dL_law_139 : decode cL_law 139 = .ok (.iconst 1, 1) := by decide +kernel
theorem dL_law_140 : decode cL_law 140 = .ok (.iadd, 1) := by decide +kernel
theorem dL_law_141 : decode cL_law 141 = .ok (.iaload, 1) := by decide +kernel
theorem dL_law_142 : decode cL_law 142 = .ok (.invokevirtual 13, 3) := by decide +kernel
theorem dL_law_145 : decode cL_law 145 = .ok (.aload_n 2, 1) := by decide +kernel
theorem dL_law_146 : decode cL_law 146 = .ok (.aload_n 0, 1) := by decide +kernel
theorem dL_law_147 : decode cL_law 147 = .ok (.iload_n 3, 1) := by decide +kernel
theorem dL_law_148 : decode cL_law 148 = .ok (.iconst 1, 1) := by decide +kernel
theorem dL_law_149 : decode cL_law 149 = .ok (.iadd, 1) := by decide +kernel
theorem dL_law_150 : decode cL_law 150 = .ok (.iaload, 1) := by decide +kernel
theorem dL_law_151 : decode cL_law 151 = .ok (.invokevirtual 17, 3) := by decide +kernel
theorem dL_law_154 : decode cL_law 154 = .ok (.if_icmp .eq 458, 3) := by decide +kernel
theorem dL_law_157 : decode cL_law 157 = .ok (.iconst 0, 1) := by decide +kernel
theorem dL_law_158 : decode cL_law 158 = .ok (.ireturn, 1) := by decide +kernel
theorem dL_law_159 : decode cL_law 159 = .ok (.aload_n 1, 1) := by decide +kernel
theorem dL_law_160 : decode cL_law 160 = .ok (.invokevirtual 18, 3) := by decide +kernel
theorem dL_law_163 : decode cL_law 163 = .ok (.aload_n 2, 1) := by decide +kernel
theorem dL_law_164 : decode cL_law 164 = .ok (.invokevirtual 22, 3) := by decide +kernel
theorem dL_law_167 : decode cL_law 167 = .ok (.if_icmp .eq 445, 3) := by decide +kernel
theorem dL_law_170 : decode cL_law 170 = .ok (.iconst 0, 1) := by decide +kernel
theorem dL_law_171 : decode cL_law 171 = .ok (.ireturn, 1) := by decide +kernel
theorem dL_law_172 : decode cL_law 172 = .ok (.aload_n 1, 1) := by decide +kernel
theorem dL_law_173 : decode cL_law 173 = .ok (.invokevirtual 23, 3) := by decide +kernel
theorem dL_law_176 : decode cL_law 176 = .ok (.aload_n 2, 1) := by decide +kernel
theorem dL_law_177 : decode cL_law 177 = .ok (.invokevirtual 26, 3) := by decide +kernel
theorem dL_law_180 : decode cL_law 180 = .ok (.if_icmp .eq 432, 3) := by decide +kernel
theorem dL_law_183 : decode cL_law 183 = .ok (.iconst 0, 1) := by decide +kernel
theorem dL_law_184 : decode cL_law 184 = .ok (.ireturn, 1) := by decide +kernel
theorem dL_law_185 : decode cL_law 185 = .ok (.aload_n 1, 1) := by decide +kernel
theorem dL_law_186 : decode cL_law 186 = .ok (.aload_n 0, 1) := by decide +kernel
theorem dL_law_187 : decode cL_law 187 = .ok (.iload_n 3, 1) := by decide +kernel
theorem dL_law_188 : decode cL_law 188 = .ok (.iconst 1, 1) := by decide +kernel
theorem dL_law_189 : decode cL_law 189 = .ok (.iadd, 1) := by decide +kernel
theorem dL_law_190 : decode cL_law 190 = .ok (.iaload, 1) := by decide +kernel
theorem dL_law_191 : decode cL_law 191 = .ok (.invokevirtual 27, 3) := by decide +kernel
theorem dL_law_194 : decode cL_law 194 = .ok (.aload_n 2, 1) := by decide +kernel
theorem dL_law_195 : decode cL_law 195 = .ok (.aload_n 0, 1) := by decide +kernel
theorem dL_law_196 : decode cL_law 196 = .ok (.iload_n 3, 1) := by decide +kernel
theorem dL_law_197 : decode cL_law 197 = .ok (.iconst 1, 1) := by decide +kernel
theorem dL_law_198 : decode cL_law 198 = .ok (.iadd, 1) := by decide +kernel
theorem dL_law_199 : decode cL_law 199 = .ok (.iaload, 1) := by decide +kernel
theorem dL_law_200 : decode cL_law 200 = .ok (.invokevirtual 30, 3) := by decide +kernel
theorem dL_law_203 : decode cL_law 203 = .ok (.if_icmp .eq 409, 3) := by decide +kernel
theorem dL_law_206 : decode cL_law 206 = .ok (.iconst 0, 1) := by decide +kernel
theorem dL_law_207 : decode cL_law 207 = .ok (.ireturn, 1) := by decide +kernel
theorem dL_law_208 : decode cL_law 208 = .ok (.aload_n 1, 1) := by decide +kernel
theorem dL_law_209 : decode cL_law 209 = .ok (.aload_n 0, 1) := by decide +kernel
theorem dL_law_210 : decode cL_law 210 = .ok (.iload_n 3, 1) := by decide +kernel
theorem dL_law_211 : decode cL_law 211 = .ok (.iconst 1, 1) := by decide +kernel
theorem dL_law_212 : decode cL_law 212 = .ok (.iadd, 1) := by decide +kernel
theorem dL_law_213 : decode cL_law 213 = .ok (.iaload, 1) := by decide +kernel
theorem dL_law_214 : decode cL_law 214 = .ok (.aload_n 0, 1) := by decide +kernel
theorem dL_law_215 : decode cL_law 215 = .ok (.iload_n 3, 1) := by decide +kernel
theorem dL_law_216 : decode cL_law 216 = .ok (.iconst 2, 1) := by decide +kernel
theorem dL_law_217 : decode cL_law 217 = .ok (.iadd, 1) := by decide +kernel
theorem dL_law_218 : decode cL_law 218 = .ok (.iaload, 1) := by decide +kernel
theorem dL_law_219 : decode cL_law 219 = .ok (.invokevirtual 31, 3) := by decide +kernel
theorem dL_law_222 : decode cL_law 222 = .ok (.aload_n 2, 1) := by decide +kernel
theorem dL_law_223 : decode cL_law 223 = .ok (.aload_n 0, 1) := by decide +kernel
theorem dL_law_224 : decode cL_law 224 = .ok (.iload_n 3, 1) := by decide +kernel
theorem dL_law_225 : decode cL_law 225 = .ok (.iconst 1, 1) := by decide +kernel
theorem dL_law_226 : decode cL_law 226 = .ok (.iadd, 1) := by decide +kernel
theorem dL_law_227 : decode cL_law 227 = .ok (.iaload, 1) := by decide +kernel
theorem dL_law_228 : decode cL_law 228 = .ok (.aload_n 0, 1) := by decide +kernel
theorem dL_law_229 : decode cL_law 229 = .ok (.iload_n 3, 1) := by decide +kernel
theorem dL_law_230 : decode cL_law 230 = .ok (.iconst 2, 1) := by decide +kernel
theorem dL_law_231 : decode cL_law 231 = .ok (.iadd, 1) := by decide +kernel
theorem dL_law_232 : decode cL_law 232 = .ok (.iaload, 1) := by decide +kernel
theorem dL_law_233 : decode cL_law 233 = .ok (.invokevirtual 35, 3) := by decide +kernel
theorem dL_law_236 : decode cL_law 236 = .ok (.if_icmp .eq 376, 3) := by decide +kernel
theorem dL_law_239 : decode cL_law 239 = .ok (.iconst 0, 1) := by decide +kernel
theorem dL_law_240 : decode cL_law 240 = .ok (.ireturn, 1) := by decide +kernel
theorem dL_law_241 : decode cL_law 241 = .ok (.aload_n 1, 1) := by decide +kernel
theorem dL_law_242 : decode cL_law 242 = .ok (.aload_n 0, 1) := by decide +kernel
theorem dL_law_243 : decode cL_law 243 = .ok (.iload_n 3, 1) := by decide +kernel
theorem dL_law_244 : decode cL_law 244 = .ok (.iconst 1, 1) := by decide +kernel
theorem dL_law_245 : decode cL_law 245 = .ok (.iadd, 1) := by decide +kernel
theorem dL_law_246 : decode cL_law 246 = .ok (.iaload, 1) := by decide +kernel
theorem dL_law_247 : decode cL_law 247 = .ok (.invokevirtual 36, 3) := by decide +kernel
theorem dL_law_250 : decode cL_law 250 = .ok (.aload_n 2, 1) := by decide +kernel
theorem dL_law_251 : decode cL_law 251 = .ok (.aload_n 0, 1) := by decide +kernel
theorem dL_law_252 : decode cL_law 252 = .ok (.iload_n 3, 1) := by decide +kernel
theorem dL_law_253 : decode cL_law 253 = .ok (.iconst 1, 1) := by decide +kernel
theorem dL_law_254 : decode cL_law 254 = .ok (.iadd, 1) := by decide +kernel
theorem dL_law_255 : decode cL_law 255 = .ok (.iaload, 1) := by decide +kernel
theorem dL_law_256 : decode cL_law 256 = .ok (.invokevirtual 39, 3) := by decide +kernel
theorem dL_law_259 : decode cL_law 259 = .ok (.if_icmp .eq 353, 3) := by decide +kernel
theorem dL_law_262 : decode cL_law 262 = .ok (.iconst 0, 1) := by decide +kernel
theorem dL_law_263 : decode cL_law 263 = .ok (.ireturn, 1) := by decide +kernel
theorem dL_law_264 : decode cL_law 264 = .ok (.aload_n 1, 1) := by decide +kernel
theorem dL_law_265 : decode cL_law 265 = .ok (.invokevirtual 40, 3) := by decide +kernel
theorem dL_law_268 : decode cL_law 268 = .ok (.aload_n 2, 1) := by decide +kernel
theorem dL_law_269 : decode cL_law 269 = .ok (.invokevirtual 43, 3) := by decide +kernel
theorem dL_law_272 : decode cL_law 272 = .ok (.if_icmp .eq 340, 3) := by decide +kernel
theorem dL_law_275 : decode cL_law 275 = .ok (.iconst 0, 1) := by decide +kernel
theorem dL_law_276 : decode cL_law 276 = .ok (.ireturn, 1) := by decide +kernel
theorem dL_law_277 : decode cL_law 277 = .ok (.aload_n 1, 1) := by decide +kernel
theorem dL_law_278 : decode cL_law 278 = .ok (.invokevirtual 44, 3) := by decide +kernel
theorem dL_law_281 : decode cL_law 281 = .ok (.aload_n 2, 1) := by decide +kernel
theorem dL_law_282 : decode cL_law 282 = .ok (.invokevirtual 47, 3) := by decide +kernel
theorem dL_law_285 : decode cL_law 285 = .ok (.if_icmp .eq 327, 3) := by decide +kernel
theorem dL_law_288 : decode cL_law 288 = .ok (.iconst 0, 1) := by decide +kernel
theorem dL_law_289 : decode cL_law 289 = .ok (.ireturn, 1) := by decide +kernel
theorem dL_law_290 : decode cL_law 290 = .ok (.aload_n 1, 1) := by decide +kernel
theorem dL_law_291 : decode cL_law 291 = .ok (.aload_n 0, 1) := by decide +kernel
theorem dL_law_292 : decode cL_law 292 = .ok (.iload_n 3, 1) := by decide +kernel
theorem dL_law_293 : decode cL_law 293 = .ok (.iconst 1, 1) := by decide +kernel
theorem dL_law_294 : decode cL_law 294 = .ok (.iadd, 1) := by decide +kernel
theorem dL_law_295 : decode cL_law 295 = .ok (.iaload, 1) := by decide +kernel
theorem dL_law_296 : decode cL_law 296 = .ok (.aload_n 0, 1) := by decide +kernel
theorem dL_law_297 : decode cL_law 297 = .ok (.iload_n 3, 1) := by decide +kernel
theorem dL_law_298 : decode cL_law 298 = .ok (.iconst 2, 1) := by decide +kernel
theorem dL_law_299 : decode cL_law 299 = .ok (.iadd, 1) := by decide +kernel
theorem dL_law_300 : decode cL_law 300 = .ok (.iaload, 1) := by decide +kernel
theorem dL_law_301 : decode cL_law 301 = .ok (.invokevirtual 48, 3) := by decide +kernel
theorem dL_law_304 : decode cL_law 304 = .ok (.aload_n 2, 1) := by decide +kernel
theorem dL_law_305 : decode cL_law 305 = .ok (.aload_n 0, 1) := by decide +kernel
theorem dL_law_306 : decode cL_law 306 = .ok (.iload_n 3, 1) := by decide +kernel
theorem dL_law_307 : decode cL_law 307 = .ok (.iconst 1, 1) := by decide +kernel
theorem dL_law_308 : decode cL_law 308 = .ok (.iadd, 1) := by decide +kernel
theorem dL_law_309 : decode cL_law 309 = .ok (.iaload, 1) := by decide +kernel
theorem dL_law_310 : decode cL_law 310 = .ok (.aload_n 0, 1) := by decide +kernel
theorem dL_law_311 : decode cL_law 311 = .ok (.iload_n 3, 1) := by decide +kernel
theorem dL_law_312 : decode cL_law 312 = .ok (.iconst 2, 1) := by decide +kernel
theorem dL_law_313 : decode cL_law 313 = .ok (.iadd, 1) := by decide +kernel
theorem dL_law_314 : decode cL_law 314 = .ok (.iaload, 1) := by decide +kernel
theorem dL_law_315 : decode cL_law 315 = .ok (.invokevirtual 51, 3) := by decide +kernel
theorem dL_law_318 : decode cL_law 318 = .ok (.if_icmp .eq 294, 3) := by decide +kernel
theorem dL_law_321 : decode cL_law 321 = .ok (.iconst 0, 1) := by decide +kernel
theorem dL_law_322 : decode cL_law 322 = .ok (.ireturn, 1) := by decide +kernel
theorem dL_law_323 : decode cL_law 323 = .ok (.aload_n 1, 1) := by decide +kernel
theorem dL_law_324 : decode cL_law 324 = .ok (.invokevirtual 52, 3) := by decide +kernel
theorem dL_law_327 : decode cL_law 327 = .ok (.aload_n 2, 1) := by decide +kernel
theorem dL_law_328 : decode cL_law 328 = .ok (.invokevirtual 55, 3) := by decide +kernel
theorem dL_law_331 : decode cL_law 331 = .ok (.if_icmp .eq 281, 3) := by decide +kernel
theorem dL_law_334 : decode cL_law 334 = .ok (.iconst 0, 1) := by decide +kernel
theorem dL_law_335 : decode cL_law 335 = .ok (.ireturn, 1) := by decide +kernel
theorem dL_law_336 : decode cL_law 336 = .ok (.aload_n 1, 1) := by decide +kernel
theorem dL_law_337 : decode cL_law 337 = .ok (.aload_n 0, 1) := by decide +kernel
theorem dL_law_338 : decode cL_law 338 = .ok (.iload_n 3, 1) := by decide +kernel
theorem dL_law_339 : decode cL_law 339 = .ok (.iconst 1, 1) := by decide +kernel
theorem dL_law_340 : decode cL_law 340 = .ok (.iadd, 1) := by decide +kernel
theorem dL_law_341 : decode cL_law 341 = .ok (.iaload, 1) := by decide +kernel
theorem dL_law_342 : decode cL_law 342 = .ok (.invokevirtual 56, 3) := by decide +kernel
theorem dL_law_345 : decode cL_law 345 = .ok (.aload_n 2, 1) := by decide +kernel
theorem dL_law_346 : decode cL_law 346 = .ok (.aload_n 0, 1) := by decide +kernel
theorem dL_law_347 : decode cL_law 347 = .ok (.iload_n 3, 1) := by decide +kernel
theorem dL_law_348 : decode cL_law 348 = .ok (.iconst 1, 1) := by decide +kernel
theorem dL_law_349 : decode cL_law 349 = .ok (.iadd, 1) := by decide +kernel
theorem dL_law_350 : decode cL_law 350 = .ok (.iaload, 1) := by decide +kernel
theorem dL_law_351 : decode cL_law 351 = .ok (.invokevirtual 59, 3) := by decide +kernel
theorem dL_law_354 : decode cL_law 354 = .ok (.if_icmp .eq 258, 3) := by decide +kernel
theorem dL_law_357 : decode cL_law 357 = .ok (.iconst 0, 1) := by decide +kernel
theorem dL_law_358 : decode cL_law 358 = .ok (.ireturn, 1) := by decide +kernel
theorem dL_law_359 : decode cL_law 359 = .ok (.aload_n 1, 1) := by decide +kernel
theorem dL_law_360 : decode cL_law 360 = .ok (.aload_n 0, 1) := by decide +kernel
theorem dL_law_361 : decode cL_law 361 = .ok (.iload_n 3, 1) := by decide +kernel
theorem dL_law_362 : decode cL_law 362 = .ok (.iconst 1, 1) := by decide +kernel
theorem dL_law_363 : decode cL_law 363 = .ok (.iadd, 1) := by decide +kernel
theorem dL_law_364 : decode cL_law 364 = .ok (.iaload, 1) := by decide +kernel
theorem dL_law_365 : decode cL_law 365 = .ok (.invokevirtual 60, 3) := by decide +kernel
theorem dL_law_368 : decode cL_law 368 = .ok (.aload_n 2, 1) := by decide +kernel
theorem dL_law_369 : decode cL_law 369 = .ok (.aload_n 0, 1) := by decide +kernel
theorem dL_law_370 : decode cL_law 370 = .ok (.iload_n 3, 1) := by decide +kernel
theorem dL_law_371 : decode cL_law 371 = .ok (.iconst 1, 1) := by decide +kernel
theorem dL_law_372 : decode cL_law 372 = .ok (.iadd, 1) := by decide +kernel
theorem dL_law_373 : decode cL_law 373 = .ok (.iaload, 1) := by decide +kernel
theorem dL_law_374 : decode cL_law 374 = .ok (.invokevirtual 63, 3) := by decide +kernel
theorem dL_law_377 : decode cL_law 377 = .ok (.if_icmp .eq 235, 3) := by decide +kernel
theorem dL_law_380 : decode cL_law 380 = .ok (.iconst 0, 1) := by decide +kernel
theorem dL_law_381 : decode cL_law 381 = .ok (.ireturn, 1) := by decide +kernel
theorem dL_law_382 : decode cL_law 382 = .ok (.aload_n 1, 1) := by decide +kernel
theorem dL_law_383 : decode cL_law 383 = .ok (.invokevirtual 64, 3) := by decide +kernel
theorem dL_law_386 : decode cL_law 386 = .ok (.aload_n 2, 1) := by decide +kernel
theorem dL_law_387 : decode cL_law 387 = .ok (.invokevirtual 67, 3) := by decide +kernel
theorem dL_law_390 : decode cL_law 390 = .ok (.if_icmp .eq 222, 3) := by decide +kernel
theorem dL_law_393 : decode cL_law 393 = .ok (.iconst 0, 1) := by decide +kernel
theorem dL_law_394 : decode cL_law 394 = .ok (.ireturn, 1) := by decide +kernel
theorem dL_law_395 : decode cL_law 395 = .ok (.aload_n 1, 1) := by decide +kernel
theorem dL_law_396 : decode cL_law 396 = .ok (.aload_n 0, 1) := by decide +kernel
theorem dL_law_397 : decode cL_law 397 = .ok (.iload_n 3, 1) := by decide +kernel
theorem dL_law_398 : decode cL_law 398 = .ok (.iconst 1, 1) := by decide +kernel
theorem dL_law_399 : decode cL_law 399 = .ok (.iadd, 1) := by decide +kernel
theorem dL_law_400 : decode cL_law 400 = .ok (.iaload, 1) := by decide +kernel
theorem dL_law_401 : decode cL_law 401 = .ok (.invokevirtual 68, 3) := by decide +kernel
theorem dL_law_404 : decode cL_law 404 = .ok (.aload_n 2, 1) := by decide +kernel
theorem dL_law_405 : decode cL_law 405 = .ok (.aload_n 0, 1) := by decide +kernel
theorem dL_law_406 : decode cL_law 406 = .ok (.iload_n 3, 1) := by decide +kernel
theorem dL_law_407 : decode cL_law 407 = .ok (.iconst 1, 1) := by decide +kernel
theorem dL_law_408 : decode cL_law 408 = .ok (.iadd, 1) := by decide +kernel
theorem dL_law_409 : decode cL_law 409 = .ok (.iaload, 1) := by decide +kernel
theorem dL_law_410 : decode cL_law 410 = .ok (.invokevirtual 71, 3) := by decide +kernel
theorem dL_law_413 : decode cL_law 413 = .ok (.if_icmp .eq 199, 3) := by decide +kernel
theorem dL_law_416 : decode cL_law 416 = .ok (.iconst 0, 1) := by decide +kernel
theorem dL_law_417 : decode cL_law 417 = .ok (.ireturn, 1) := by decide +kernel
theorem dL_law_418 : decode cL_law 418 = .ok (.aload_n 1, 1) := by decide +kernel
theorem dL_law_419 : decode cL_law 419 = .ok (.aload_n 0, 1) := by decide +kernel
theorem dL_law_420 : decode cL_law 420 = .ok (.iload_n 3, 1) := by decide +kernel
theorem dL_law_421 : decode cL_law 421 = .ok (.iconst 1, 1) := by decide +kernel
theorem dL_law_422 : decode cL_law 422 = .ok (.iadd, 1) := by decide +kernel
theorem dL_law_423 : decode cL_law 423 = .ok (.iaload, 1) := by decide +kernel
theorem dL_law_424 : decode cL_law 424 = .ok (.invokevirtual 72, 3) := by decide +kernel
theorem dL_law_427 : decode cL_law 427 = .ok (.aload_n 2, 1) := by decide +kernel
theorem dL_law_428 : decode cL_law 428 = .ok (.aload_n 0, 1) := by decide +kernel
theorem dL_law_429 : decode cL_law 429 = .ok (.iload_n 3, 1) := by decide +kernel
theorem dL_law_430 : decode cL_law 430 = .ok (.iconst 1, 1) := by decide +kernel
theorem dL_law_431 : decode cL_law 431 = .ok (.iadd, 1) := by decide +kernel
theorem dL_law_432 : decode cL_law 432 = .ok (.iaload, 1) := by decide +kernel
theorem dL_law_433 : decode cL_law 433 = .ok (.invokevirtual 75, 3) := by decide +kernel
theorem dL_law_436 : decode cL_law 436 = .ok (.if_icmp .eq 176, 3) := by decide +kernel
theorem dL_law_439 : decode cL_law 439 = .ok (.iconst 0, 1) := by decide +kernel
theorem dL_law_440 : decode cL_law 440 = .ok (.ireturn, 1) := by decide +kernel
theorem dL_law_441 : decode cL_law 441 = .ok (.aload_n 1, 1) := by decide +kernel
theorem dL_law_442 : decode cL_law 442 = .ok (.aload_n 0, 1) := by decide +kernel
theorem dL_law_443 : decode cL_law 443 = .ok (.iload_n 3, 1) := by decide +kernel
theorem dL_law_444 : decode cL_law 444 = .ok (.iconst 1, 1) := by decide +kernel
theorem dL_law_445 : decode cL_law 445 = .ok (.iadd, 1) := by decide +kernel
theorem dL_law_446 : decode cL_law 446 = .ok (.iaload, 1) := by decide +kernel
theorem dL_law_447 : decode cL_law 447 = .ok (.aload_n 0, 1) := by decide +kernel
theorem dL_law_448 : decode cL_law 448 = .ok (.iload_n 3, 1) := by decide +kernel
theorem dL_law_449 : decode cL_law 449 = .ok (.iconst 2, 1) := by decide +kernel
theorem dL_law_450 : decode cL_law 450 = .ok (.iadd, 1) := by decide +kernel
theorem dL_law_451 : decode cL_law 451 = .ok (.iaload, 1) := by decide +kernel
theorem dL_law_452 : decode cL_law 452 = .ok (.invokevirtual 76, 3) := by decide +kernel
theorem dL_law_455 : decode cL_law 455 = .ok (.aload_n 2, 1) := by decide +kernel
theorem dL_law_456 : decode cL_law 456 = .ok (.aload_n 0, 1) := by decide +kernel
theorem dL_law_457 : decode cL_law 457 = .ok (.iload_n 3, 1) := by decide +kernel
theorem dL_law_458 : decode cL_law 458 = .ok (.iconst 1, 1) := by decide +kernel
theorem dL_law_459 : decode cL_law 459 = .ok (.iadd, 1) := by decide +kernel
theorem dL_law_460 : decode cL_law 460 = .ok (.iaload, 1) := by decide +kernel
theorem dL_law_461 : decode cL_law 461 = .ok (.aload_n 0, 1) := by decide +kernel
theorem dL_law_462 : decode cL_law 462 = .ok (.iload_n 3, 1) := by decide +kernel
theorem dL_law_463 : decode cL_law 463 = .ok (.iconst 2, 1) := by decide +kernel
theorem dL_law_464 : decode cL_law 464 = .ok (.iadd, 1) := by decide +kernel
theorem dL_law_465 : decode cL_law 465 = .ok (.iaload, 1) := by decide +kernel
theorem dL_law_466 : decode cL_law 466 = .ok (.invokevirtual 79, 3) := by decide +kernel
theorem dL_law_469 : decode cL_law 469 = .ok (.if_icmp .eq 143, 3) := by decide +kernel
theorem dL_law_472 : decode cL_law 472 = .ok (.iconst 0, 1) := by decide +kernel
theorem dL_law_473 : decode cL_law 473 = .ok (.ireturn, 1) := by decide +kernel
theorem dL_law_474 : decode cL_law 474 = .ok (.aload_n 1, 1) := by decide +kernel
theorem dL_law_475 : decode cL_law 475 = .ok (.aload_n 0, 1) := by decide +kernel
theorem dL_law_476 : decode cL_law 476 = .ok (.iload_n 3, 1) := by decide +kernel
theorem dL_law_477 : decode cL_law 477 = .ok (.iconst 1, 1) := by decide +kernel
theorem dL_law_478 : decode cL_law 478 = .ok (.iadd, 1) := by decide +kernel
theorem dL_law_479 : decode cL_law 479 = .ok (.iaload, 1) := by decide +kernel
theorem dL_law_480 : decode cL_law 480 = .ok (.invokevirtual 80, 3) := by decide +kernel
theorem dL_law_483 : decode cL_law 483 = .ok (.aload_n 2, 1) := by decide +kernel
theorem dL_law_484 : decode cL_law 484 = .ok (.aload_n 0, 1) := by decide +kernel
theorem dL_law_485 : decode cL_law 485 = .ok (.iload_n 3, 1) := by decide +kernel
theorem dL_law_486 : decode cL_law 486 = .ok (.iconst 1, 1) := by decide +kernel
theorem dL_law_487 : decode cL_law 487 = .ok (.iadd, 1) := by decide +kernel
theorem dL_law_488 : decode cL_law 488 = .ok (.iaload, 1) := by decide +kernel
theorem dL_law_489 : decode cL_law 489 = .ok (.invokevirtual 83, 3) := by decide +kernel
theorem dL_law_492 : decode cL_law 492 = .ok (.if_icmp .eq 120, 3) := by decide +kernel
theorem dL_law_495 : decode cL_law 495 = .ok (.iconst 0, 1) := by decide +kernel
theorem dL_law_496 : decode cL_law 496 = .ok (.ireturn, 1) := by decide +kernel
theorem dL_law_497 : decode cL_law 497 = .ok (.aload_n 1, 1) := by decide +kernel
theorem dL_law_498 : decode cL_law 498 = .ok (.aload_n 0, 1) := by decide +kernel
theorem dL_law_499 : decode cL_law 499 = .ok (.iload_n 3, 1) := by decide +kernel
theorem dL_law_500 : decode cL_law 500 = .ok (.iconst 1, 1) := by decide +kernel
theorem dL_law_501 : decode cL_law 501 = .ok (.iadd, 1) := by decide +kernel
theorem dL_law_502 : decode cL_law 502 = .ok (.iaload, 1) := by decide +kernel
theorem dL_law_503 : decode cL_law 503 = .ok (.invokevirtual 84, 3) := by decide +kernel
theorem dL_law_506 : decode cL_law 506 = .ok (.aload_n 2, 1) := by decide +kernel
theorem dL_law_507 : decode cL_law 507 = .ok (.aload_n 0, 1) := by decide +kernel
theorem dL_law_508 : decode cL_law 508 = .ok (.iload_n 3, 1) := by decide +kernel
theorem dL_law_509 : decode cL_law 509 = .ok (.iconst 1, 1) := by decide +kernel
theorem dL_law_510 : decode cL_law 510 = .ok (.iadd, 1) := by decide +kernel
theorem dL_law_511 : decode cL_law 511 = .ok (.iaload, 1) := by decide +kernel
theorem dL_law_512 : decode cL_law 512 = .ok (.invokevirtual 87, 3) := by decide +kernel
theorem dL_law_515 : decode cL_law 515 = .ok (.if_icmp .eq 97, 3) := by decide +kernel
theorem dL_law_518 : decode cL_law 518 = .ok (.iconst 0, 1) := by decide +kernel
theorem dL_law_519 : decode cL_law 519 = .ok (.ireturn, 1) := by decide +kernel
theorem dL_law_520 : decode cL_law 520 = .ok (.aload_n 1, 1) := by decide +kernel
theorem dL_law_521 : decode cL_law 521 = .ok (.aload_n 0, 1) := by decide +kernel
theorem dL_law_522 : decode cL_law 522 = .ok (.iload_n 3, 1) := by decide +kernel
theorem dL_law_523 : decode cL_law 523 = .ok (.iconst 1, 1) := by decide +kernel
theorem dL_law_524 : decode cL_law 524 = .ok (.iadd, 1) := by decide +kernel
theorem dL_law_525 : decode cL_law 525 = .ok (.iaload, 1) := by decide +kernel
theorem dL_law_526 : decode cL_law 526 = .ok (.invokevirtual 88, 3) := by decide +kernel
theorem dL_law_529 : decode cL_law 529 = .ok (.aload_n 2, 1) := by decide +kernel
theorem dL_law_530 : decode cL_law 530 = .ok (.aload_n 0, 1) := by decide +kernel
theorem dL_law_531 : decode cL_law 531 = .ok (.iload_n 3, 1) := by decide +kernel
theorem dL_law_532 : decode cL_law 532 = .ok (.iconst 1, 1) := by decide +kernel
theorem dL_law_533 : decode cL_law 533 = .ok (.iadd, 1) := by decide +kernel
theorem dL_law_534 : decode cL_law 534 = .ok (.iaload, 1) := by decide +kernel
theorem dL_law_535 : decode cL_law 535 = .ok (.invokevirtual 91, 3) := by decide +kernel
theorem dL_law_538 : decode cL_law 538 = .ok (.if_icmp .eq 74, 3) := by decide +kernel
theorem dL_law_541 : decode cL_law 541 = .ok (.iconst 0, 1) := by decide +kernel
theorem dL_law_542 : decode cL_law 542 = .ok (.ireturn, 1) := by decide +kernel
theorem dL_law_543 : decode cL_law 543 = .ok (.aload_n 1, 1) := by decide +kernel
theorem dL_law_544 : decode cL_law 544 = .ok (.aload_n 0, 1) := by decide +kernel
theorem dL_law_545 : decode cL_law 545 = .ok (.iload_n 3, 1) := by decide +kernel
theorem dL_law_546 : decode cL_law 546 = .ok (.iconst 1, 1) := by decide +kernel
theorem dL_law_547 : decode cL_law 547 = .ok (.iadd, 1) := by decide +kernel
theorem dL_law_548 : decode cL_law 548 = .ok (.iaload, 1) := by decide +kernel
theorem dL_law_549 : decode cL_law 549 = .ok (.invokevirtual 92, 3) := by decide +kernel
theorem dL_law_552 : decode cL_law 552 = .ok (.aload_n 2, 1) := by decide +kernel
theorem dL_law_553 : decode cL_law 553 = .ok (.aload_n 0, 1) := by decide +kernel
theorem dL_law_554 : decode cL_law 554 = .ok (.iload_n 3, 1) := by decide +kernel
theorem dL_law_555 : decode cL_law 555 = .ok (.iconst 1, 1) := by decide +kernel
theorem dL_law_556 : decode cL_law 556 = .ok (.iadd, 1) := by decide +kernel
theorem dL_law_557 : decode cL_law 557 = .ok (.iaload, 1) := by decide +kernel
theorem dL_law_558 : decode cL_law 558 = .ok (.invokevirtual 95, 3) := by decide +kernel
theorem dL_law_561 : decode cL_law 561 = .ok (.if_icmp .eq 51, 3) := by decide +kernel
theorem dL_law_564 : decode cL_law 564 = .ok (.iconst 0, 1) := by decide +kernel
theorem dL_law_565 : decode cL_law 565 = .ok (.ireturn, 1) := by decide +kernel
theorem dL_law_566 : decode cL_law 566 = .ok (.aload_n 1, 1) := by decide +kernel
theorem dL_law_567 : decode cL_law 567 = .ok (.aload_n 0, 1) := by decide +kernel
theorem dL_law_568 : decode cL_law 568 = .ok (.iload_n 3, 1) := by decide +kernel
theorem dL_law_569 : decode cL_law 569 = .ok (.iconst 1, 1) := by decide +kernel
theorem dL_law_570 : decode cL_law 570 = .ok (.iadd, 1) := by decide +kernel
theorem dL_law_571 : decode cL_law 571 = .ok (.iaload, 1) := by decide +kernel
theorem dL_law_572 : decode cL_law 572 = .ok (.invokevirtual 96, 3) := by decide +kernel
theorem dL_law_575 : decode cL_law 575 = .ok (.aload_n 2, 1) := by decide +kernel
theorem dL_law_576 : decode cL_law 576 = .ok (.aload_n 0, 1) := by decide +kernel
theorem dL_law_577 : decode cL_law 577 = .ok (.iload_n 3, 1) := by decide +kernel
theorem dL_law_578 : decode cL_law 578 = .ok (.iconst 1, 1) := by decide +kernel
theorem dL_law_579 : decode cL_law 579 = .ok (.iadd, 1) := by decide +kernel
theorem dL_law_580 : decode cL_law 580 = .ok (.iaload, 1) := by decide +kernel
theorem dL_law_581 : decode cL_law 581 = .ok (.invokevirtual 99, 3) := by decide +kernel
theorem dL_law_584 : decode cL_law 584 = .ok (.if_icmp .eq 28, 3) := by decide +kernel
theorem dL_law_587 : decode cL_law 587 = .ok (.iconst 0, 1) := by decide +kernel
theorem dL_law_588 : decode cL_law 588 = .ok (.ireturn, 1) := by decide +kernel
theorem dL_law_589 : decode cL_law 589 = .ok (.aload_n 1, 1) := by decide +kernel
theorem dL_law_590 : decode cL_law 590 = .ok (.aload_n 0, 1) := by decide +kernel
theorem dL_law_591 : decode cL_law 591 = .ok (.iload_n 3, 1) := by decide +kernel
theorem dL_law_592 : decode cL_law 592 = .ok (.iconst 1, 1) := by decide +kernel
theorem dL_law_593 : decode cL_law 593 = .ok (.iadd, 1) := by decide +kernel
theorem dL_law_594 : decode cL_law 594 = .ok (.iaload, 1) := by decide +kernel
theorem dL_law_595 : decode cL_law 595 = .ok (.invokevirtual 100, 3) := by decide +kernel
theorem dL_law_598 : decode cL_law 598 = .ok (.aload_n 2, 1) := by decide +kernel
theorem dL_law_599 : decode cL_law 599 = .ok (.aload_n 0, 1) := by decide +kernel
theorem dL_law_600 : decode cL_law 600 = .ok (.iload_n 3, 1) := by decide +kernel
theorem dL_law_601 : decode cL_law 601 = .ok (.iconst 1, 1) := by decide +kernel
theorem dL_law_602 : decode cL_law 602 = .ok (.iadd, 1) := by decide +kernel
theorem dL_law_603 : decode cL_law 603 = .ok (.iaload, 1) := by decide +kernel
theorem dL_law_604 : decode cL_law 604 = .ok (.invokevirtual 103, 3) := by decide +kernel
theorem dL_law_607 : decode cL_law 607 = .ok (.if_icmp .eq 5, 3) := by decide +kernel
theorem dL_law_610 : decode cL_law 610 = .ok (.iconst 0, 1) := by decide +kernel
theorem dL_law_611 : decode cL_law 611 = .ok (.ireturn, 1) := by decide +kernel
theorem dL_law_612 : decode cL_law 612 = .ok (.iinc 3 3, 3) := by decide +kernel
theorem dL_law_615 : decode cL_law 615 = .ok (.goto (-597), 3) := by decide +kernel
theorem dL_law_618 : decode cL_law 618 = .ok (.iconst 1, 1) := by decide +kernel
theorem dL_law_619 : decode cL_law 619 = .ok (.ireturn, 1) := by decide +kernel
end
section
section BASE
/-! the abstract world: kinds K, reference fields P, whole numbers V, by real addresses -/
abbrev KT : Type := Nat → Option (Nat ⊕ (Nat × Nat))
abbrev PT : Type := Nat → Nat → Option Nat
abbrev VT : Type := Nat → Nat → Int32
abbrev TT : Type := ClassId × ClassId × ClassId
abbrev cls : List vw_C := [(RX1, TX1, 4), (RX3, TX3, 5), (RX4, TX4, 3), (RX5, TX5, 5), (RX6, TX6, 9), (RX7, TX7, 22)]
def nF (ci : Nat) : Nat := match ci with | 0 => 4 | 1 => 5 | 2 => 3 | 3 => 5 | 4 => 9 | _ => 22
def isR (ci k : Nat) : Bool := match ci with
  | 0 => k == 3
  | 1 => k == 0 || k == 1
  | 2 => k == 0
  | 3 => k == 0 || k == 1 || k == 2 || k == 3
  | 4 => true
  | _ => !(k == 0 || k == 7 || k == 9 || k == 11 || k == 14 || k == 16)
def flds (ci : Nat) (P : PT) (V : VT) (a : Nat) : List Value := (List.range (nF ci)).map (fun k => if isR ci k = true then va_rf (P a k) else .int (V a k))
def cel (T : TT) (P : PT) (V : VT) (a : Nat) : Nat ⊕ (Nat × Nat) → va_E
  | .inl ci => .inr (ci, flds ci P V a)
  | .inr (0, n) => .inl (T.1, n, .inl (V a))
  | .inr (1, n) => .inl (T.2.1, n, .inl (V a))
  | .inr (_, n) => .inl (T.2.2, n, .inr (.inr (.inr (.inr (P a)))))
def HR (D : va_G) (T : TT) (K : KT) (P : PT) (V : VT) (H : Heap) : Prop := ∀ (a : Nat) (kd : Nat ⊕ (Nat × Nat)), K a = some kd → va_at D cls (a, cel T P V a kd) H
abbrev tys (T : TT) : List (ClassId × FieldType) := [(T.1, .int), (T.2.1, .boolean), (T.2.2, .object "QuotedLayers$Layer")]
def nx1 : Cond := .methodLinkNest RX2 41 ⟨RX6, "isSign", "(I)Z"⟩ RX6
def nx2 : Cond := .methodLinkNest RX1 92 ⟨RX6, "isSign", "(I)Z"⟩ RX6
def NX (s : State) : Prop := va_Nw nx1 s ∧ va_Nw nx2 s ∧ va_AO "QuotedLayers$Layer" s
theorem NX.warm {s U : State} (hW : s.WarmedH U.vm) (h : NX s) : NX U := ⟨va_Nw.warmM hW h.1, va_Nw.warmM hW h.2.1, h.2.2.moved hW.alike⟩
theorem NX.same {u U : State} (h : u.vm = U.vm) (hn : NX u) : NX U := ⟨va_Nw.same rfl h hn.1, va_Nw.same rfl h hn.2.1, hn.2.2.moved (by rw [h]; exact Vm.Alike.refl _)⟩
def TBL : List Cond := lw_tbl.filter goodWord
theorem tm {i : Nat} {w : Cond} (h : lw_tbl[i]? = some w) (hg : goodWord w = true) : w ∈ TBL := List.mem_filter.mpr ⟨List.mem_of_getElem? h, hg⟩
theorem tb_good {ws : List Cond} (h : ∀ w ∈ ws, w ∈ TBL) : GoodIn TBL ws := fun w hw => ⟨h w hw, good_of_word (List.mem_filter.mp (h w hw)).2⟩
abbrev GT : Type := Program × Launch × Env × State × MethodId × Array Value × List Frame × Method × Code × va_G × TT × (Nat → Prop)
def OK (g : GT) (own : String) (cc : ByteArray) (nL : Nat) (ret : Option FieldType) : Prop := match g with
  | (p, _, _, s, m, args, _, meth, c, D, T, A) => p.tables.exec = Jvm.exec ∧ c.code = cc ∧ c.maxLocals = nL ∧ s.vm.findClass own = some m.cls ∧ (∀ w ∈ TBL, w.before args s = true) ∧ va_K D cls (tys T) s ∧ NX s ∧ meth.locks = false ∧ (∀ q : Nat, s.heap.size ≤ q → A q) ∧ meth.sig.returnType = ret
/-- a constructor's body -/
def INI (g : GT) : Prop := match g with | (_, _, _, _, _, _, _, meth, _) => meth.name = "<init>"
def gsz (g : GT) : Nat := match g with | (_, _, _, s, _) => s.heap.size
def WL (g : GT) (K : KT) (P : PT) (V : VT) (n : Nat) (H : Heap) (locs : List Loc) : Prop := match g with
  | (_, _, _, s, _, _, _, _, _, D, T, A) => HR D T K P V H ∧ va_S A s.heap H locs ∧ H.size = s.heap.size + n ∧ ∀ a : Nat, K a ≠ none → A a
def lvO (ls : Array Slot) (nL : Nat) (L : List (Option Value)) : Prop := ls.size = nL ∧ lv_wf ls ∧ ∀ (i : Nat) (v : Value), L[i]? = some (some v) → ls[i]? = some (.val v)
def J (g : GT) (R : Room) (Q : State → Prop) (nL : Nat) (K : KT) (P : PT) (V : VT) (n sl pc : Nat) (L : List (Option Value)) (st : List Value) : Prop := match g with
  | (p, l, e, s, m, args, below, meth, c, _, _, _) => ∀ (H : Heap) (locs : List Loc) (ls : Array Slot), WL g K P V n H locs → lvO ls nL L → W p l e R s m args below meth c H locs n sl Q (F0 m pc ls st)
theorem J.i {p : Program} {l : Launch} {e : Env} {s : State} {m : MethodId} {args : Array Value} {below : List Frame} {meth : Method} {c : Code} {D : va_G} {T : TT} {A : Nat → Prop} {R : Room} {Q : State → Prop} {nL : Nat} {K : KT} {P : PT} {V : VT} {n sl pc : Nat} {L : List (Option Value)} {st : List Value}
    (h : ∀ (H : Heap) (locs : List Loc) (ls : Array Slot), HR D T K P V H → va_S A s.heap H locs → H.size = s.heap.size + n → (∀ a : Nat, K a ≠ none → A a) → lvO ls nL L → W p l e R s m args below meth c H locs n sl Q (F0 m pc ls st)) : J (p, l, e, s, m, args, below, meth, c, D, T, A) R Q nL K P V n sl pc L st := fun H locs ls hW hl => h H locs ls hW.1 hW.2.1 hW.2.2.1 hW.2.2.2 hl
theorem J.u {p : Program} {l : Launch} {e : Env} {s : State} {m : MethodId} {args : Array Value} {below : List Frame} {meth : Method} {c : Code} {D : va_G} {T : TT} {A : Nat → Prop} {R : Room} {Q : State → Prop} {nL : Nat} {K : KT} {P : PT} {V : VT} {n sl pc : Nat} {L : List (Option Value)} {st : List Value}
    (h : J (p, l, e, s, m, args, below, meth, c, D, T, A) R Q nL K P V n sl pc L st) {H : Heap} {locs : List Loc} {ls : Array Slot} (h1 : HR D T K P V H) (h2 : va_S A s.heap H locs) (h3 : H.size = s.heap.size + n) (h4 : ∀ a : Nat, K a ≠ none → A a) (h5 : lvO ls nL L) : W p l e R s m args below meth c H locs n sl Q (F0 m pc ls st) := h H locs ls ⟨h1, h2, h3, h4⟩ h5
theorem lvO.has {ls : Array Slot} {nL : Nat} {L : List (Option Value)} (h : lvO ls nL L) : lv_has ls nL ((List.range L.length).filterMap (fun i => match L[i]? with | some (some v) => some (i, v) | _ => none)) := by
  refine ⟨h.1, h.2.1, fun q hq => ?_⟩
  obtain ⟨i, -, hi⟩ := List.mem_filterMap.mp hq
  cases hL : L[i]? with
  | none => rw [hL] at hi; cases hi
  | some o =>
    cases o with
    | none => rw [hL] at hi; cases hi
    | some v => rw [hL] at hi; cases hi; exact h.2.2 i v hL
theorem lvO.mem {L : List (Option Value)} {i : Nat} {v : Value} (h : L[i]? = some (some v)) : (i, v) ∈ (List.range L.length).filterMap (fun i => match L[i]? with | some (some v) => some (i, v) | _ => none) := by
  refine List.mem_filterMap.mpr ⟨i, List.mem_range.mpr (List.getElem?_eq_some_iff.mp h).1, ?_⟩
  rw [h]
/-- L2 is L1 with v at i -/
def lput (L1 : List (Option Value)) (i : Nat) (v : Value) (L2 : List (Option Value)) : Prop := L1.set i (some v) = L2
theorem lvO.store {nL : Nat} {L L2 : List (Option Value)} {i : Nat} {v : Value} (hL : ∀ (j : Nat) (w : Value), L[j]? = some (some w) → w.category = 1) (h2 : lput L i v L2) {ls' : Array Slot}
    (h : lv_has ls' nL ((i, v) :: ((List.range L.length).filterMap (fun i => match L[i]? with | some (some v) => some (i, v) | _ => none)).filter (fun q => !(q.1 == i) && !(q.1 + 1 == i && q.2.category == 2)))) : lvO ls' nL L2 := by
  refine ⟨h.1, h.2.1, fun j w hj => ?_⟩
  rw [← h2] at hj
  by_cases hji : j = i
  · subst hji
    by_cases hlt : j < L.length
    · rw [List.getElem?_set_self hlt] at hj
      cases hj
      exact h.2.2 (j, v) List.mem_cons_self
    · rw [List.getElem?_eq_none (by rw [List.length_set]; omega)] at hj
      cases hj
  · rw [List.getElem?_set_ne (fun z => hji z.symm)] at hj
    refine h.2.2 (j, w) (List.mem_cons_of_mem _ (List.mem_filter.mpr ⟨lvO.mem hj, ?_⟩))
    have hc := hL j w hj
    simp [hji, hc]
def c1 (L : List (Option Value)) : Bool := L.all (fun o => match o with | some (.int _) => true | some (.ref _) => true | none => true | _ => false)
theorem c1.ok {L : List (Option Value)} (h : c1 L = true) (j : Nat) (w : Value) (hj : L[j]? = some (some w)) : w.category = 1 := by
  have := List.all_eq_true.mp h _ (List.mem_of_getElem? hj)
  cases w <;> first | rfl | simp at this
def lsub : List (Option Value) → List (Option Value) → Prop
  | [], _ => True
  | none :: t, L => lsub t L.tail
  | some v :: t, L => L.head? = some (some v) ∧ lsub t L.tail
theorem lsub.ok : ∀ {L1 L2 : List (Option Value)}, lsub L1 L2 → ∀ (i : Nat) (v : Value), L1[i]? = some (some v) → L2[i]? = some (some v)
  | [], _, _, i, v, h => by simp at h
  | none :: t, L2, hs, i, v, h => by
    cases i with
    | zero => simp at h
    | succ i =>
      have := lsub.ok (L1 := t) hs i v (by simpa using h)
      cases L2 with
      | nil => simp at this
      | cons a l => simpa using this
  | some w :: t, L2, hs, i, v, h => by
    cases i with
    | zero =>
      cases L2 with
      | nil => cases hs.1
      | cons a l => have := hs.1; simp at this h; subst this; subst h; rfl
    | succ i =>
      have := lsub.ok (L1 := t) hs.2 i v (by simpa using h)
      cases L2 with
      | nil => simp at this
      | cons a l => simpa using this
theorem lvO.sub {ls : Array Slot} {nL : Nat} {L L2 : List (Option Value)} (h : lvO ls nL L) (hs : lsub L2 L) : lvO ls nL L2 := ⟨h.1, h.2.1, fun i v hi => h.2.2 i v (hs.ok i v hi)⟩
theorem HR.one {D : va_G} {T : TT} {K : KT} {P : PT} {V : VT} {H : Heap} (h : HR D T K P V H) {a : Nat} {kd : Nat ⊕ (Nat × Nat)} (hk : K a = some kd) : va_P D cls [(a, cel T P V a kd)] H := by
  intro k q hq
  cases k with
  | zero => cases hq; exact h a kd hk
  | succ k => simp at hq
theorem flds_get {ci k : Nat} (P : PT) (V : VT) (a : Nat) (hk : k < nF ci) : (flds ci P V a)[k]? = some (if isR ci k = true then va_rf (P a k) else .int (V a k)) := by
  simp [flds, List.getElem?_map, List.getElem?_range, hk]
theorem flds_len (ci : Nat) (P : PT) (V : VT) (a : Nat) : (flds ci P V a).length = nF ci := by simp [flds]
theorem vp_flds {ci k : Nat} (P : PT) (V : VT) (a : Nat) (hk : k < nF ci) : vp_V (flds ci P V a) k = if isR ci k = true then va_rf (P a k) else .int (V a k) := by
  unfold vp_V
  rw [List.getD_eq_getElem?_getD, flds_get P V a hk]
  rfl
theorem flds_congr {ci : Nat} {P P2 : PT} {V V2 : VT} {a : Nat} (hP : P2 a = P a) (hV : V2 a = V a) : flds ci P2 V2 a = flds ci P V a := by unfold flds; rw [hP, hV]
theorem cel_congr {T : TT} {P P2 : PT} {V V2 : VT} {a : Nat} {kd : Nat ⊕ (Nat × Nat)} (hP : P2 a = P a) (hV : V2 a = V a) : cel T P2 V2 a kd = cel T P V a kd := by
  rcases kd with ci | ⟨t, n⟩
  · show Sum.inr (ci, flds ci P2 V2 a) = Sum.inr (ci, flds ci P V a)
    rw [flds_congr hP hV]
  · match t with
    | 0 => show Sum.inl _ = Sum.inl _; rw [hV]
    | 1 => show Sum.inl _ = Sum.inl _; rw [hV]
    | t + 2 => show Sum.inl _ = Sum.inl _; rw [hP]
def vset (V : VT) (a k : Nat) (x : Int32) : VT := fun b j => if b = a ∧ j = k then x else V b j
def pset (P : PT) (a k : Nat) (x : Option Nat) : PT := fun b j => if b = a ∧ j = k then x else P b j
def kset (K : KT) (a : Nat) (kd : Nat ⊕ (Nat × Nat)) : KT := fun b => if b = a then some kd else K b
def vrow (V : VT) (a : Nat) (f : Nat → Int32) : VT := fun b => if b = a then f else V b
def prow (P : PT) (a : Nat) (f : Nat → Option Nat) : PT := fun b => if b = a then f else P b
theorem vset_ne {V : VT} {a k b : Nat} {x : Int32} (h : b ≠ a) : vset V a k x b = V b := by funext j; simp [vset, h]
theorem pset_ne {P : PT} {a k b : Nat} {x : Option Nat} (h : b ≠ a) : pset P a k x b = P b := by funext j; simp [pset, h]
theorem vrow_ne {V : VT} {a b : Nat} {f : Nat → Int32} (h : b ≠ a) : vrow V a f b = V b := by simp [vrow, h]
theorem prow_ne {P : PT} {a b : Nat} {f : Nat → Option Nat} (h : b ≠ a) : prow P a f b = P b := by simp [prow, h]
theorem HR.put {D : va_G} {T : TT} {K : KT} {P P2 : PT} {V V2 : VT} {H H1 : Heap} (h : HR D T K P V H) {a : Nat} (oq : ∀ q : Nat, q ≠ a → H1[q]? = H[q]?) (hat : ∀ kd, K a = some kd → va_at D cls (a, cel T P2 V2 a kd) H1) (hP : ∀ b, b ≠ a → P2 b = P b) (hV : ∀ b, b ≠ a → V2 b = V b) : HR D T K P2 V2 H1 := by
  intro b kd hb
  by_cases hba : b = a
  · subst hba; exact hat kd hb
  · rw [cel_congr (hP b hba) (hV b hba)]
    exact (h b kd hb).kept (oq b hba)
/-! what the shallow functions are made of -/
section SH
variable {β : Type}
def gI (K : KT) (V : VT) (a ci k : Nat) (F : Int32 → Option β) : Option β := if K a = some (.inl ci) then F (V a k) else none
def gR (K : KT) (P : PT) (a ci k : Nat) (F : Nat → Option β) : Option β := if K a = some (.inl ci) then (match P a k with | some b => F b | none => none) else none
def sI (K : KT) (V : VT) (a ci k : Nat) (x : Int32) (F : VT → Option β) : Option β := if K a = some (.inl ci) then F (vset V a k x) else none
def sB (K : KT) (V : VT) (a ci k : Nat) (x : Int32) (F : VT → Option β) : Option β := if K a = some (.inl ci) ∧ (x = 0 ∨ x = 1) then F (vset V a k x) else none
def aI (K : KT) (V : VT) (t a : Nat) (i : Int32) (F : Int32 → Option β) : Option β := match K a with
  | some (.inr (u, n)) => if u = t ∧ 0 ≤ i ∧ i.toNatClampNeg < n then F (V a i.toNatClampNeg) else none
  | _ => none
def sA (K : KT) (V : VT) (a : Nat) (i x : Int32) (F : VT → Option β) : Option β := match K a with
  | some (.inr (u, n)) => if u = 0 ∧ 0 ≤ i ∧ i.toNatClampNeg < n then F (vset V a i.toNatClampNeg x) else none
  | _ => none
def sZ (K : KT) (V : VT) (a : Nat) (i x : Int32) (F : VT → Option β) : Option β := match K a with
  | some (.inr (u, n)) => if u = 1 ∧ (0 ≤ i ∧ i.toNatClampNeg < n) ∧ (x = 0 ∨ x = 1) then F (vset V a i.toNatClampNeg x) else none
  | _ => none
def aN (K : KT) (a : Nat) (F : Int32 → Option β) : Option β := match K a with
  | some (.inr (u, n)) => if u < 3 then F (nI n) else none
  | _ => none
def aQ (K : KT) (P : PT) (a : Nat) (i : Int32) (F : Nat → Option β) : Option β := match K a with
  | some (.inr (u, n)) => if u = 2 ∧ 0 ≤ i ∧ i.toNatClampNeg < n then (match P a i.toNatClampNeg with | some b => F b | none => none) else none
  | _ => none
def dG (y : Int32) (F : Option β) : Option β := if y = 0 then none else F
def rB (v : Int32) (V : VT) : Option (Int32 × VT) := if v = 0 ∨ v = 1 then some (v, V) else none
def cS {α : Type} (x : Option (α × VT)) (F : α → VT → Option β) : Option β := match x with | some (r, V) => F r V | none => none
def cV {α : Type} (K : KT) (a ci : Nat) (x : Option (α × VT)) (F : α → VT → Option β) : Option β := if K a = some (.inl ci) then cS x F else none
end SH
section RW
variable {g : GT} {R : Room} {Q : State → Prop} {nL : Nat} {K : KT} {P : PT} {V : VT} {n sl pc q : Nat} {L : List (Option Value)} {st : List Value} {own : String} {cc : ByteArray} {ret : Option FieldType} {β : Type} {res : β}
/-! constants, locals, stack -/
theorem j_iconst {z : Int} (v : Int32) (h : OK g own cc nL ret) (d : decode cc pc = .ok (.iconst z, 1)) (hv : Int32.ofInt z = v) (hq : pc + 1 = q) (k : J g R Q nL K P V n sl q L (.int v :: st)) : J g R Q nL K P V n sl pc L st := by
  obtain ⟨p, l, e, s, m, args, below, meth, c, D, T, A⟩ := g
  subst hq
  exact J.i fun H locs ls h1 h2 h3 h4 h5 => lv_iconst h.1 h.2.1 d hv (k.u h1 h2 h3 h4 h5)
theorem j_bipush {z : Int} (v : Int32) (h : OK g own cc nL ret) (d : decode cc pc = .ok (.bipush z, 2)) (hv : (Int8.ofInt z).toInt32 = v) (hq : pc + 2 = q) (k : J g R Q nL K P V n sl q L (.int v :: st)) : J g R Q nL K P V n sl pc L st := by
  obtain ⟨p, l, e, s, m, args, below, meth, c, D, T, A⟩ := g
  subst hq
  exact J.i fun H locs ls h1 h2 h3 h4 h5 => lv_bipush h.1 h.2.1 d hv (k.u h1 h2 h3 h4 h5)
theorem j_sipush {z : Int} (v : Int32) (h : OK g own cc nL ret) (d : decode cc pc = .ok (.sipush z, 3)) (hv : (Int16.ofInt z).toInt32 = v) (hq : pc + 3 = q) (k : J g R Q nL K P V n sl q L (.int v :: st)) : J g R Q nL K P V n sl pc L st := by
  obtain ⟨p, l, e, s, m, args, below, meth, c, D, T, A⟩ := g
  subst hq
  exact J.i fun H locs ls h1 h2 h3 h4 h5 => lv_sipush h.1 h.2.1 d hv (k.u h1 h2 h3 h4 h5)
theorem j_iload_n {k : Fin 4} {x : Int32} (h : OK g own cc nL ret) (d : decode cc pc = .ok (.iload_n k, 1)) (hk : L[(k : Nat)]? = some (some (.int x))) (hq : pc + 1 = q) (kk : J g R Q nL K P V n sl q L (.int x :: st)) : J g R Q nL K P V n sl pc L st := by
  obtain ⟨p, l, e, s, m, args, below, meth, c, D, T, A⟩ := g
  subst hq
  exact J.i fun H locs ls h1 h2 h3 h4 h5 => lv_iload_n h.1 h.2.1 d rfl (h5.2.2 _ _ hk) (kk.u h1 h2 h3 h4 h5)
theorem j_iload {i : Nat} {x : Int32} (h : OK g own cc nL ret) (d : decode cc pc = .ok (.iload i, 2)) (hk : L[i]? = some (some (.int x))) (hq : pc + 2 = q) (kk : J g R Q nL K P V n sl q L (.int x :: st)) : J g R Q nL K P V n sl pc L st := by
  obtain ⟨p, l, e, s, m, args, below, meth, c, D, T, A⟩ := g
  subst hq
  exact J.i fun H locs ls h1 h2 h3 h4 h5 => lv_iload h.1 h.2.1 d (h5.2.2 _ _ hk) (kk.u h1 h2 h3 h4 h5)
theorem j_aload_n {k : Fin 4} {x : Nat} (h : OK g own cc nL ret) (d : decode cc pc = .ok (.aload_n k, 1)) (hk : L[(k : Nat)]? = some (some (.ref x))) (hq : pc + 1 = q) (kk : J g R Q nL K P V n sl q L (.ref x :: st)) : J g R Q nL K P V n sl pc L st := by
  obtain ⟨p, l, e, s, m, args, below, meth, c, D, T, A⟩ := g
  subst hq
  exact J.i fun H locs ls h1 h2 h3 h4 h5 => lv_aload_n h.1 h.2.1 d rfl (h5.2.2 _ _ hk) (kk.u h1 h2 h3 h4 h5)
theorem j_aload {i : Nat} {x : Nat} (h : OK g own cc nL ret) (d : decode cc pc = .ok (.aload i, 2)) (hk : L[i]? = some (some (.ref x))) (hq : pc + 2 = q) (kk : J g R Q nL K P V n sl q L (.ref x :: st)) : J g R Q nL K P V n sl pc L st := by
  obtain ⟨p, l, e, s, m, args, below, meth, c, D, T, A⟩ := g
  subst hq
  exact J.i fun H locs ls h1 h2 h3 h4 h5 => lv_aload h.1 h.2.1 d (h5.2.2 _ _ hk) (kk.u h1 h2 h3 h4 h5)
theorem j_istore_n {k : Fin 4} {x : Int32} (L2 : List (Option Value)) (h : OK g own cc nL ret) (d : decode cc pc = .ok (.istore_n k, 1)) (hc : c1 L = true) (hn : (k : Nat) < nL) (h2 : lput L (k : Nat) (.int x) L2) (hq : pc + 1 = q) (kk : J g R Q nL K P V n sl q L2 st) : J g R Q nL K P V n sl pc L (.int x :: st) := by
  obtain ⟨p, l, e, s, m, args, below, meth, c, D, T, A⟩ := g
  subst hq
  exact J.i fun H locs ls h1 h2' h3 h4 h5 => lv_istore_n h.1 h.2.1 d rfl h5.has hn rfl (fun ls' h' => kk.u h1 h2' h3 h4 (lvO.store (c1.ok hc) h2 h'))
theorem j_istore {i : Nat} {x : Int32} (L2 : List (Option Value)) (h : OK g own cc nL ret) (d : decode cc pc = .ok (.istore i, 2)) (hc : c1 L = true) (hn : i < nL) (h2 : lput L i (.int x) L2) (hq : pc + 2 = q) (kk : J g R Q nL K P V n sl q L2 st) : J g R Q nL K P V n sl pc L (.int x :: st) := by
  obtain ⟨p, l, e, s, m, args, below, meth, c, D, T, A⟩ := g
  subst hq
  exact J.i fun H locs ls h1 h2' h3 h4 h5 => lv_istore h.1 h.2.1 d h5.has hn rfl (fun ls' h' => kk.u h1 h2' h3 h4 (lvO.store (c1.ok hc) h2 h'))
theorem j_astore_n {k : Fin 4} {x : Nat} (L2 : List (Option Value)) (h : OK g own cc nL ret) (d : decode cc pc = .ok (.astore_n k, 1)) (hc : c1 L = true) (hn : (k : Nat) < nL) (h2 : lput L (k : Nat) (.ref x) L2) (hq : pc + 1 = q) (kk : J g R Q nL K P V n sl q L2 st) : J g R Q nL K P V n sl pc L (.ref x :: st) := by
  obtain ⟨p, l, e, s, m, args, below, meth, c, D, T, A⟩ := g
  subst hq
  exact J.i fun H locs ls h1 h2' h3 h4 h5 => lv_astore_n h.1 h.2.1 d rfl h5.has hn rfl (fun ls' h' => kk.u h1 h2' h3 h4 (lvO.store (c1.ok hc) h2 h'))
theorem j_astore {i : Nat} {x : Nat} (L2 : List (Option Value)) (h : OK g own cc nL ret) (d : decode cc pc = .ok (.astore i, 2)) (hc : c1 L = true) (hn : i < nL) (h2 : lput L i (.ref x) L2) (hq : pc + 2 = q) (kk : J g R Q nL K P V n sl q L2 st) : J g R Q nL K P V n sl pc L (.ref x :: st) := by
  obtain ⟨p, l, e, s, m, args, below, meth, c, D, T, A⟩ := g
  subst hq
  exact J.i fun H locs ls h1 h2' h3 h4 h5 => lv_astore h.1 h.2.1 d h5.has hn rfl (fun ls' h' => kk.u h1 h2' h3 h4 (lvO.store (c1.ok hc) h2 h'))
theorem j_iinc {i : Nat} {z : Int} {x : Int32} (v : Int32) (L2 : List (Option Value)) (h : OK g own cc nL ret) (d : decode cc pc = .ok (.iinc i z, 3)) (hc : c1 L = true) (hn : i < nL) (hk : L[i]? = some (some (.int x))) (hv : x + Int32.ofInt z = v) (h2 : lput L i (.int v) L2) (hq : pc + 3 = q) (kk : J g R Q nL K P V n sl q L2 st) : J g R Q nL K P V n sl pc L st := by
  obtain ⟨p, l, e, s, m, args, below, meth, c, D, T, A⟩ := g
  subst hq
  refine J.i fun H locs ls h1 h2' h3 h4 h5 => ?_
  obtain ⟨j, hj⟩ := List.getElem?_of_mem (lvO.mem hk)
  exact lv_iinc h.1 h.2.1 d h5.has (k := j) hj hv hn rfl (fun ls' h' => kk.u h1 h2' h3 h4 (lvO.store (c1.ok hc) h2 h'))
theorem j_dup {v : Value} (h : OK g own cc nL ret) (d : decode cc pc = .ok (.dup, 1)) (hv : v.category = 1) (hq : pc + 1 = q) (kk : J g R Q nL K P V n sl q L (v :: v :: st)) : J g R Q nL K P V n sl pc L (v :: st) := by
  obtain ⟨p, l, e, s, m, args, below, meth, c, D, T, A⟩ := g
  subst hq
  exact J.i fun H locs ls h1 h2 h3 h4 h5 => lv_dup h.1 h.2.1 d hv (kk.u h1 h2 h3 h4 h5)
theorem j_pop {v : Value} (h : OK g own cc nL ret) (d : decode cc pc = .ok (.pop, 1)) (hv : v.category = 1) (hq : pc + 1 = q) (kk : J g R Q nL K P V n sl q L st) : J g R Q nL K P V n sl pc L (v :: st) := by
  obtain ⟨p, l, e, s, m, args, below, meth, c, D, T, A⟩ := g
  subst hq
  exact J.i fun H locs ls h1 h2 h3 h4 h5 => lv_pop h.1 h.2.1 d hv (kk.u h1 h2 h3 h4 h5)
/-! numbers -/
theorem j_iadd {x y : Int32} (h : OK g own cc nL ret) (d : decode cc pc = .ok (.iadd, 1)) (hq : pc + 1 = q) (kk : J g R Q nL K P V n sl q L (.int (x + y) :: st)) : J g R Q nL K P V n sl pc L (.int y :: .int x :: st) := by
  obtain ⟨p, l, e, s, m, args, below, meth, c, D, T, A⟩ := g
  subst hq
  exact J.i fun H locs ls h1 h2 h3 h4 h5 => lv_iadd h.1 h.2.1 d (kk.u h1 h2 h3 h4 h5)
theorem j_isub {x y : Int32} (h : OK g own cc nL ret) (d : decode cc pc = .ok (.isub, 1)) (hq : pc + 1 = q) (kk : J g R Q nL K P V n sl q L (.int (x - y) :: st)) : J g R Q nL K P V n sl pc L (.int y :: .int x :: st) := by
  obtain ⟨p, l, e, s, m, args, below, meth, c, D, T, A⟩ := g
  subst hq
  exact J.i fun H locs ls h1 h2 h3 h4 h5 => lv_isub h.1 h.2.1 d (kk.u h1 h2 h3 h4 h5)
theorem j_imul {x y : Int32} (h : OK g own cc nL ret) (d : decode cc pc = .ok (.imul, 1)) (hq : pc + 1 = q) (kk : J g R Q nL K P V n sl q L (.int (x * y) :: st)) : J g R Q nL K P V n sl pc L (.int y :: .int x :: st) := by
  obtain ⟨p, l, e, s, m, args, below, meth, c, D, T, A⟩ := g
  subst hq
  exact J.i fun H locs ls h1 h2 h3 h4 h5 => lv_imul h.1 h.2.1 d (kk.u h1 h2 h3 h4 h5)
theorem j_iand {x y : Int32} (h : OK g own cc nL ret) (d : decode cc pc = .ok (.iand, 1)) (hq : pc + 1 = q) (kk : J g R Q nL K P V n sl q L (.int (x &&& y) :: st)) : J g R Q nL K P V n sl pc L (.int y :: .int x :: st) := by
  obtain ⟨p, l, e, s, m, args, below, meth, c, D, T, A⟩ := g
  subst hq
  exact J.i fun H locs ls h1 h2 h3 h4 h5 => lv_iand h.1 h.2.1 d (kk.u h1 h2 h3 h4 h5)
theorem j_ishr {x y : Int32} (h : OK g own cc nL ret) (d : decode cc pc = .ok (.ishr, 1)) (hq : pc + 1 = q) (kk : J g R Q nL K P V n sl q L (.int (x >>> (y &&& 31)) :: st)) : J g R Q nL K P V n sl pc L (.int y :: .int x :: st) := by
  obtain ⟨p, l, e, s, m, args, below, meth, c, D, T, A⟩ := g
  subst hq
  exact J.i fun H locs ls h1 h2 h3 h4 h5 => lv_ishr h.1 h.2.1 d (kk.u h1 h2 h3 h4 h5)
theorem j_idiv {x y : Int32} {F : Option β} (h : OK g own cc nL ret) (d : decode cc pc = .ok (.idiv, 1)) (hq : pc + 1 = q) (hf : dG y F = some res) (kk : F = some res → J g R Q nL K P V n sl q L (.int (x / y) :: st)) : J g R Q nL K P V n sl pc L (.int y :: .int x :: st) := by
  obtain ⟨p, l, e, s, m, args, below, meth, c, D, T, A⟩ := g
  subst hq
  unfold dG at hf
  split at hf
  · cases hf
  · rename_i hne
    exact J.i fun H locs ls h1 h2 h3 h4 h5 => lv_idiv h.1 h.2.1 d hne ((kk hf).u h1 h2 h3 h4 h5)
theorem j_irem {x y : Int32} {F : Option β} (h : OK g own cc nL ret) (d : decode cc pc = .ok (.irem, 1)) (hq : pc + 1 = q) (hf : dG y F = some res) (kk : F = some res → J g R Q nL K P V n sl q L (.int (x - x / y * y) :: st)) : J g R Q nL K P V n sl pc L (.int y :: .int x :: st) := by
  obtain ⟨p, l, e, s, m, args, below, meth, c, D, T, A⟩ := g
  subst hq
  unfold dG at hf
  split at hf
  · cases hf
  · rename_i hne
    exact J.i fun H locs ls h1 h2 h3 h4 h5 => lv_irem h.1 h.2.1 d hne ((kk hf).u h1 h2 h3 h4 h5)
/-! branches: conditions are x < y, x = y alone -/
theorem j_goto {off : Int} (tgt : Nat) (h : OK g own cc nL ret) (d : decode cc pc = .ok (.goto off, 3)) (ht : (pc : Int) + off = (tgt : Int)) (kk : J g R Q nL K P V n sl tgt L st) : J g R Q nL K P V n sl pc L st := by
  obtain ⟨p, l, e, s, m, args, below, meth, c, D, T, A⟩ := g
  exact J.i fun H locs ls h1 h2 h3 h4 h5 => lv_goto h.1 h.2.1 d ht (kk.u h1 h2 h3 h4 h5)
theorem j_icmp_lt {x y : Int32} {off : Int} {FA FB : Option β} (tgt : Nat) (h : OK g own cc nL ret) (d : decode cc pc = .ok (.if_icmp .lt off, 3)) (ht : (pc : Int) + off = (tgt : Int)) (hq : pc + 3 = q) (hf : (if x < y then FA else FB) = some res) (kt : FA = some res → J g R Q nL K P V n sl tgt L st) (kf : FB = some res → J g R Q nL K P V n sl q L st) : J g R Q nL K P V n sl pc L (.int y :: .int x :: st) := by
  obtain ⟨p, l, e, s, m, args, below, meth, c, D, T, A⟩ := g
  subst hq
  exact J.i fun H locs ls h1 h2 h3 h4 h5 => lv_icmp_lt h.1 h.2.1 d ht (fun z => (kt (by rw [if_pos z] at hf; exact hf)).u h1 h2 h3 h4 h5) (fun z => (kf (by rw [if_neg z] at hf; exact hf)).u h1 h2 h3 h4 h5)
theorem j_icmp_ge {x y : Int32} {off : Int} {FA FB : Option β} (tgt : Nat) (h : OK g own cc nL ret) (d : decode cc pc = .ok (.if_icmp .ge off, 3)) (ht : (pc : Int) + off = (tgt : Int)) (hq : pc + 3 = q) (hf : (if x < y then FA else FB) = some res) (kt : FB = some res → J g R Q nL K P V n sl tgt L st) (kf : FA = some res → J g R Q nL K P V n sl q L st) : J g R Q nL K P V n sl pc L (.int y :: .int x :: st) := by
  obtain ⟨p, l, e, s, m, args, below, meth, c, D, T, A⟩ := g
  subst hq
  exact J.i fun H locs ls h1 h2 h3 h4 h5 => lv_icmp_ge h.1 h.2.1 d ht (fun z => (kt (by rw [if_neg (Int32.not_lt.mpr z)] at hf; exact hf)).u h1 h2 h3 h4 h5) (fun z => (kf (by rw [if_pos (Int32.not_le.mp z)] at hf; exact hf)).u h1 h2 h3 h4 h5)
theorem j_icmp_gt {x y : Int32} {off : Int} {FA FB : Option β} (tgt : Nat) (h : OK g own cc nL ret) (d : decode cc pc = .ok (.if_icmp .gt off, 3)) (ht : (pc : Int) + off = (tgt : Int)) (hq : pc + 3 = q) (hf : (if y < x then FA else FB) = some res) (kt : FA = some res → J g R Q nL K P V n sl tgt L st) (kf : FB = some res → J g R Q nL K P V n sl q L st) : J g R Q nL K P V n sl pc L (.int y :: .int x :: st) := by
  obtain ⟨p, l, e, s, m, args, below, meth, c, D, T, A⟩ := g
  subst hq
  exact J.i fun H locs ls h1 h2 h3 h4 h5 => lv_icmp_gt h.1 h.2.1 d ht (fun z => (kt (by rw [if_pos z] at hf; exact hf)).u h1 h2 h3 h4 h5) (fun z => (kf (by rw [if_neg z] at hf; exact hf)).u h1 h2 h3 h4 h5)
theorem j_icmp_le {x y : Int32} {off : Int} {FA FB : Option β} (tgt : Nat) (h : OK g own cc nL ret) (d : decode cc pc = .ok (.if_icmp .le off, 3)) (ht : (pc : Int) + off = (tgt : Int)) (hq : pc + 3 = q) (hf : (if y < x then FA else FB) = some res) (kt : FB = some res → J g R Q nL K P V n sl tgt L st) (kf : FA = some res → J g R Q nL K P V n sl q L st) : J g R Q nL K P V n sl pc L (.int y :: .int x :: st) := by
  obtain ⟨p, l, e, s, m, args, below, meth, c, D, T, A⟩ := g
  subst hq
  exact J.i fun H locs ls h1 h2 h3 h4 h5 => lv_icmp_le h.1 h.2.1 d ht (fun z => (kt (by rw [if_neg (Int32.not_lt.mpr z)] at hf; exact hf)).u h1 h2 h3 h4 h5) (fun z => (kf (by rw [if_pos (Int32.not_le.mp z)] at hf; exact hf)).u h1 h2 h3 h4 h5)
theorem j_icmp_eq {x y : Int32} {off : Int} {FA FB : Option β} (tgt : Nat) (h : OK g own cc nL ret) (d : decode cc pc = .ok (.if_icmp .eq off, 3)) (ht : (pc : Int) + off = (tgt : Int)) (hq : pc + 3 = q) (hf : (if x = y then FA else FB) = some res) (kt : FA = some res → J g R Q nL K P V n sl tgt L st) (kf : FB = some res → J g R Q nL K P V n sl q L st) : J g R Q nL K P V n sl pc L (.int y :: .int x :: st) := by
  obtain ⟨p, l, e, s, m, args, below, meth, c, D, T, A⟩ := g
  subst hq
  exact J.i fun H locs ls h1 h2 h3 h4 h5 => lv_icmp_eq h.1 h.2.1 d ht (fun z => (kt (by rw [if_pos z] at hf; exact hf)).u h1 h2 h3 h4 h5) (fun z => (kf (by rw [if_neg z] at hf; exact hf)).u h1 h2 h3 h4 h5)
theorem j_icmp_ne {x y : Int32} {off : Int} {FA FB : Option β} (tgt : Nat) (h : OK g own cc nL ret) (d : decode cc pc = .ok (.if_icmp .ne off, 3)) (ht : (pc : Int) + off = (tgt : Int)) (hq : pc + 3 = q) (hf : (if x = y then FA else FB) = some res) (kt : FB = some res → J g R Q nL K P V n sl tgt L st) (kf : FA = some res → J g R Q nL K P V n sl q L st) : J g R Q nL K P V n sl pc L (.int y :: .int x :: st) := by
  obtain ⟨p, l, e, s, m, args, below, meth, c, D, T, A⟩ := g
  subst hq
  exact J.i fun H locs ls h1 h2 h3 h4 h5 => lv_icmp_ne h.1 h.2.1 d ht (fun z => (kt (by rw [if_neg z] at hf; exact hf)).u h1 h2 h3 h4 h5) (fun z => (kf (by rw [if_pos z] at hf; exact hf)).u h1 h2 h3 h4 h5)
theorem j_if_lt {x : Int32} {off : Int} {FA FB : Option β} (tgt : Nat) (h : OK g own cc nL ret) (d : decode cc pc = .ok (.ifCond .lt off, 3)) (ht : (pc : Int) + off = (tgt : Int)) (hq : pc + 3 = q) (hf : (if x < 0 then FA else FB) = some res) (kt : FA = some res → J g R Q nL K P V n sl tgt L st) (kf : FB = some res → J g R Q nL K P V n sl q L st) : J g R Q nL K P V n sl pc L (.int x :: st) := by
  obtain ⟨p, l, e, s, m, args, below, meth, c, D, T, A⟩ := g
  subst hq
  exact J.i fun H locs ls h1 h2 h3 h4 h5 => lv_if_lt h.1 h.2.1 d ht (fun z => (kt (by rw [if_pos z] at hf; exact hf)).u h1 h2 h3 h4 h5) (fun z => (kf (by rw [if_neg z] at hf; exact hf)).u h1 h2 h3 h4 h5)
theorem j_if_ge {x : Int32} {off : Int} {FA FB : Option β} (tgt : Nat) (h : OK g own cc nL ret) (d : decode cc pc = .ok (.ifCond .ge off, 3)) (ht : (pc : Int) + off = (tgt : Int)) (hq : pc + 3 = q) (hf : (if x < 0 then FA else FB) = some res) (kt : FB = some res → J g R Q nL K P V n sl tgt L st) (kf : FA = some res → J g R Q nL K P V n sl q L st) : J g R Q nL K P V n sl pc L (.int x :: st) := by
  obtain ⟨p, l, e, s, m, args, below, meth, c, D, T, A⟩ := g
  subst hq
  exact J.i fun H locs ls h1 h2 h3 h4 h5 => lv_if_ge h.1 h.2.1 d ht (fun z => (kt (by rw [if_neg (Int32.not_lt.mpr z)] at hf; exact hf)).u h1 h2 h3 h4 h5) (fun z => (kf (by rw [if_pos (Int32.not_le.mp z)] at hf; exact hf)).u h1 h2 h3 h4 h5)
theorem j_if_gt {x : Int32} {off : Int} {FA FB : Option β} (tgt : Nat) (h : OK g own cc nL ret) (d : decode cc pc = .ok (.ifCond .gt off, 3)) (ht : (pc : Int) + off = (tgt : Int)) (hq : pc + 3 = q) (hf : (if 0 < x then FA else FB) = some res) (kt : FA = some res → J g R Q nL K P V n sl tgt L st) (kf : FB = some res → J g R Q nL K P V n sl q L st) : J g R Q nL K P V n sl pc L (.int x :: st) := by
  obtain ⟨p, l, e, s, m, args, below, meth, c, D, T, A⟩ := g
  subst hq
  exact J.i fun H locs ls h1 h2 h3 h4 h5 => lv_if_gt h.1 h.2.1 d ht (fun z => (kt (by rw [if_pos z] at hf; exact hf)).u h1 h2 h3 h4 h5) (fun z => (kf (by rw [if_neg z] at hf; exact hf)).u h1 h2 h3 h4 h5)
theorem j_if_le {x : Int32} {off : Int} {FA FB : Option β} (tgt : Nat) (h : OK g own cc nL ret) (d : decode cc pc = .ok (.ifCond .le off, 3)) (ht : (pc : Int) + off = (tgt : Int)) (hq : pc + 3 = q) (hf : (if 0 < x then FA else FB) = some res) (kt : FB = some res → J g R Q nL K P V n sl tgt L st) (kf : FA = some res → J g R Q nL K P V n sl q L st) : J g R Q nL K P V n sl pc L (.int x :: st) := by
  obtain ⟨p, l, e, s, m, args, below, meth, c, D, T, A⟩ := g
  subst hq
  exact J.i fun H locs ls h1 h2 h3 h4 h5 => lv_if_le h.1 h.2.1 d ht (fun z => (kt (by rw [if_neg (Int32.not_lt.mpr z)] at hf; exact hf)).u h1 h2 h3 h4 h5) (fun z => (kf (by rw [if_pos (Int32.not_le.mp z)] at hf; exact hf)).u h1 h2 h3 h4 h5)
theorem j_if_eq {x : Int32} {off : Int} {FA FB : Option β} (tgt : Nat) (h : OK g own cc nL ret) (d : decode cc pc = .ok (.ifCond .eq off, 3)) (ht : (pc : Int) + off = (tgt : Int)) (hq : pc + 3 = q) (hf : (if x = 0 then FA else FB) = some res) (kt : FA = some res → J g R Q nL K P V n sl tgt L st) (kf : FB = some res → J g R Q nL K P V n sl q L st) : J g R Q nL K P V n sl pc L (.int x :: st) := by
  obtain ⟨p, l, e, s, m, args, below, meth, c, D, T, A⟩ := g
  subst hq
  exact J.i fun H locs ls h1 h2 h3 h4 h5 => lv_if_eq h.1 h.2.1 d ht (fun z => (kt (by rw [if_pos z] at hf; exact hf)).u h1 h2 h3 h4 h5) (fun z => (kf (by rw [if_neg z] at hf; exact hf)).u h1 h2 h3 h4 h5)
theorem j_if_ne {x : Int32} {off : Int} {FA FB : Option β} (tgt : Nat) (h : OK g own cc nL ret) (d : decode cc pc = .ok (.ifCond .ne off, 3)) (ht : (pc : Int) + off = (tgt : Int)) (hq : pc + 3 = q) (hf : (if x = 0 then FA else FB) = some res) (kt : FB = some res → J g R Q nL K P V n sl tgt L st) (kf : FA = some res → J g R Q nL K P V n sl q L st) : J g R Q nL K P V n sl pc L (.int x :: st) := by
  obtain ⟨p, l, e, s, m, args, below, meth, c, D, T, A⟩ := g
  subst hq
  exact J.i fun H locs ls h1 h2 h3 h4 h5 => lv_if_ne h.1 h.2.1 d ht (fun z => (kt (by rw [if_neg z] at hf; exact hf)).u h1 h2 h3 h4 h5) (fun z => (kf (by rw [if_pos z] at hf; exact hf)).u h1 h2 h3 h4 h5)
/-! fields and arrays -/
section FA
variable {ci k index N : Nat} {C : String} {Tt : u_T}
theorem j_gI {a : Nat} {F : Int32 → Option β} (h : OK g own cc nL ret) (hin : ∀ w ∈ u_ws C Tt N, w ∈ TBL) (hc : cls[ci]? = some (C, Tt, N)) (hN : nF ci = N) (hk : k < N) (hr : isR ci k = false) (hlk : Cond.fieldLink own index (Tt k).1 (Tt k).2.1 (Tt k).2.2.1 ∈ TBL) (d : decode cc pc = .ok (.getfield index, 3)) (hq : pc + 3 = q) (hf : gI K V a ci k F = some res) (kk : F (V a k) = some res → J g R Q nL K P V n sl q L (.int (V a k) :: st)) : J g R Q nL K P V n sl pc L (.ref a :: st) := by
  obtain ⟨p, l, e, s, m, args, below, meth, c, D, T, A⟩ := g
  subst hq
  unfold gI at hf
  split at hf
  · rename_i hKa
    obtain ⟨hx, hb, hml, ho, hts, hK, -⟩ := h
    refine J.i fun H locs ls h1 h2 h3 h4 h5 => ?_
    exact va_get (D := D) (ci := ci) (v := .int (V a k)) (C := C) (T := Tt) (N := N) hx hb hts hin ho hK (h1.one hKa) 0 (fs := flds ci P V a) rfl hc k hk (hts _ hlk) (fun _ h9 => h9) (by rw [flds_get P V a (by rw [hN]; exact hk), hr]; rfl) d ((kk hf).u h1 h2 h3 h4 h5)
  · cases hf
theorem j_gR {a : Nat} {F : Nat → Option β} (h : OK g own cc nL ret) (hin : ∀ w ∈ u_ws C Tt N, w ∈ TBL) (hc : cls[ci]? = some (C, Tt, N)) (hN : nF ci = N) (hk : k < N) (hr : isR ci k = true) (hlk : Cond.fieldLink own index (Tt k).1 (Tt k).2.1 (Tt k).2.2.1 ∈ TBL) (d : decode cc pc = .ok (.getfield index, 3)) (hq : pc + 3 = q) (hf : gR K P a ci k F = some res) (kk : ∀ b : Nat, F b = some res → J g R Q nL K P V n sl q L (.ref b :: st)) : J g R Q nL K P V n sl pc L (.ref a :: st) := by
  obtain ⟨p, l, e, s, m, args, below, meth, c, D, T, A⟩ := g
  subst hq
  unfold gR at hf
  split at hf
  · rename_i hKa
    cases hb' : P a k with
    | none => rw [hb'] at hf; cases hf
    | some b =>
      rw [hb'] at hf
      obtain ⟨hx, hb, hml, ho, hts, hK, -⟩ := h
      refine J.i fun H locs ls h1 h2 h3 h4 h5 => ?_
      exact va_get (D := D) (ci := ci) (v := .ref b) (C := C) (T := Tt) (N := N) hx hb hts hin ho hK (h1.one hKa) 0 (fs := flds ci P V a) rfl hc k hk (hts _ hlk) (fun _ h9 => h9) (by rw [flds_get P V a (by rw [hN]; exact hk), hr, hb']; rfl) d ((kk b hf).u h1 h2 h3 h4 h5)
  · cases hf
/-- the heap behind a put of field k -/
theorem put_at {D : va_G} {T : TT} {H1 : Heap} {a : Nat} {x : Value} {P2 : PT} {V2 : VT} {cell : Cell} (hap : ∀ x y, x < N → y < N → x ≠ y → (D.2 ci) x ≠ (D.2 ci) y) (hc : cls[ci]? = some (C, Tt, N)) (hN : nF ci = N) (hk : k < N) (q2 : cell.cls = D.1 ci) (q3 : cell.vm = .none) (q4 : ∀ k, k < N → cell.slots[(D.2 ci) k]? = some (vp_V (flds ci P V a) k)) (e1 : H1[a]? = some (cell.setSlot ((D.2 ci) k) x)) (hv : ∀ j, j < N → vp_V (flds ci P2 V2 a) j = updV (vp_V (flds ci P V a)) k x j) : va_at D cls (a, cel T P2 V2 a (.inl ci)) H1 :=
  ⟨_, hc, t_OB.to (V := updV (vp_V (flds ci P V a)) k x) ⟨_, e1, q2, q3, t_set q4 hap hk x⟩ (fun j hj => (hv j hj).symm)⟩
theorem flds_vset (a : Nat) (x : Int32) (hr : isR ci k = false) (j : Nat) (hj : j < nF ci) : vp_V (flds ci P (vset V a k x) a) j = updV (vp_V (flds ci P V a)) k (.int x) j := by
  unfold updV
  by_cases hjk : j = k
  · subst hjk
    rw [if_pos rfl, vp_flds _ _ _ hj, hr]
    simp [vset]
  · rw [if_neg hjk, vp_flds _ _ _ hj, vp_flds _ _ _ hj]
    simp [vset, hjk]
theorem flds_pset (a : Nat) (x : Option Nat) (hr : isR ci k = true) (j : Nat) (hj : j < nF ci) : vp_V (flds ci (pset P a k x) V a) j = updV (vp_V (flds ci P V a)) k (va_rf x) j := by
  unfold updV
  by_cases hjk : j = k
  · subst hjk
    rw [if_pos rfl, vp_flds _ _ _ hj, hr]
    simp [pset]
  · rw [if_neg hjk, vp_flds _ _ _ hj, vp_flds _ _ _ hj]
    simp [pset, hjk]
theorem j_put {a : Nat} {ty : FieldType} {v : Value} (P2 : PT) (V2 : VT) (h : OK g own cc nL ret) (ty0 : Nat → FieldType) (hty : ∀ k, k < N → parseFieldDescriptor (Tt k).2.2.1 = some (ty0 k)) (hnm : ∀ a, a < N → ∀ b, b < N → a ≠ b → (Tt a).2.1 ≠ (Tt b).2.1) (hin : ∀ w ∈ u_ws C Tt N, w ∈ TBL) (hc : cls[ci]? = some (C, Tt, N)) (hN : nF ci = N) (hk : k < N) (hfin : (Tt k).2.2.2 = false) (hd : parseFieldDescriptor (Tt k).2.2.1 = some ty) (hn : narrow ty v = v) (hfit : fits ty v = true) (hlk : Cond.fieldLink own index (Tt k).1 (Tt k).2.1 (Tt k).2.2.1 ∈ TBL) (d : decode cc pc = .ok (.putfield index, 3)) (hq : pc + 3 = q) (hKa : K a = some (.inl ci)) (hP2 : ∀ b, b ≠ a → P2 b = P b) (hV2 : ∀ b, b ≠ a → V2 b = V b) (hv : ∀ j, j < nF ci → vp_V (flds ci P2 V2 a) j = updV (vp_V (flds ci P V a)) k v j) (kk : J g R Q nL K P2 V2 n sl q L st) : J g R Q nL K P V n sl pc L (v :: .ref a :: st) := by
  obtain ⟨p, l, e, s, m, args, below, meth, c, D, T, A⟩ := g
  subst hq
  obtain ⟨hx, hb, hml, ho, hts, hK, -⟩ := h
  refine J.i fun H locs ls h1 h2 h3 h4 h5 => ?_
  have hap := va_apart (own := own) hts hin ty0 hty hnm hK hc
  obtain ⟨r, h1', cell, q1, q2, q3, q4⟩ := h1 a _ hKa
  have hr : r = (C, Tt, N) := Option.some.inj (h1'.symm.trans hc)
  subst hr
  obtain ⟨hS, hfc, kC, hkC, hkind⟩ := hK.1 ci _ hc
  obtain ⟨cf, kf, fi, f, hi, hsl⟩ := hS k hk
  have hlay := hts _ (hin _ (u_in_lay hk))
  unfold u_lay at hlay
  rw [if_neg (by rw [hfin]; decide)] at hlay
  have hst := (u_facts hfc hkC (u_lays hts hin hk) hi).1
  have h6 := u_store hfc hkC hkind hlay hi hd hn hfit
  refine W.putK hx hb (f := f) ⟨ho, hts _ hlk, ⟨_, _, _, hi⟩, hst⟩ (by rw [q2]; exact h6) q1 q3 (by rw [hsl]; exact k2_hasslot (q4 k hk)) rfl rfl d fun H' e1 e2 e3 => ?_
  rw [hsl] at e1 ⊢
  refine kk.u (h1.put e3 (fun kd hkd => ?_) hP2 hV2) (h2.put e2 e3 (h4 a (by rw [hKa]; exact fun z => by cases z))) (by rw [e2]; exact h3) h4 h5
  rw [hKa] at hkd
  cases hkd
  exact put_at hap hc hN hk q2 q3 q4 e1 (fun j hj => hv j (by rw [hN]; exact hj))
theorem j_putF {a : Nat} {ty : FieldType} {v : Value} (P2 : PT) (V2 : VT) (h : OK g own cc nL ret) (hini : INI g) (ty0 : Nat → FieldType) (hty : ∀ k, k < N → parseFieldDescriptor (Tt k).2.2.1 = some (ty0 k)) (hnm : ∀ a, a < N → ∀ b, b < N → a ≠ b → (Tt a).2.1 ≠ (Tt b).2.1) (hin : ∀ w ∈ u_ws C Tt N, w ∈ TBL) (hc : cls[ci]? = some (C, Tt, N)) (hN : nF ci = N) (hk : k < N) (hfin : (Tt k).2.2.2 = true) (hdecl : (Tt k).1 = own) (hd : parseFieldDescriptor (Tt k).2.2.1 = some ty) (hn : narrow ty v = v) (hfit : fits ty v = true) (hlk : Cond.fieldLink own index (Tt k).1 (Tt k).2.1 (Tt k).2.2.1 ∈ TBL) (d : decode cc pc = .ok (.putfield index, 3)) (hq : pc + 3 = q) (hKa : K a = some (.inl ci)) (hP2 : ∀ b, b ≠ a → P2 b = P b) (hV2 : ∀ b, b ≠ a → V2 b = V b) (hv : ∀ j, j < nF ci → vp_V (flds ci P2 V2 a) j = updV (vp_V (flds ci P V a)) k v j) (kk : J g R Q nL K P2 V2 n sl q L st) : J g R Q nL K P V n sl pc L (v :: .ref a :: st) := by
  obtain ⟨p, l, e, s, m, args, below, meth, c, D, T, A⟩ := g
  subst hq
  obtain ⟨hx, hb, hml, ho, hts, hK, -⟩ := h
  refine J.i fun H locs ls h1 h2 h3 h4 h5 => ?_
  have hap := va_apart (own := own) hts hin ty0 hty hnm hK hc
  obtain ⟨r, h1', cell, q1, q2, q3, q4⟩ := h1 a _ hKa
  have hr : r = (C, Tt, N) := Option.some.inj (h1'.symm.trans hc)
  subst hr
  obtain ⟨hS, hfc, kC, hkC, hkind⟩ := hK.1 ci _ hc
  obtain ⟨cf, kf, fi, f, hi, hsl⟩ := hS k hk
  have hlay := hts _ (hin _ (u_in_lay hk))
  unfold u_lay at hlay
  rw [if_pos hfin] at hlay
  have hst := (u_facts hfc hkC (u_lays hts hin hk) hi).1
  have hcf : m.cls = cf := by
    obtain ⟨_, _, c', _, _, _, -, -, hf', -, -, -, hown2, -⟩ := Cond.laysFinal_spec hlay
    have e1 : c' = cf := by have := hi.symm.trans hf'; simp at this; exact this.1.symm
    rw [hdecl] at hown2
    rw [← e1]; exact Option.some.inj (ho.symm.trans hown2)
  have h6 := u_fits hfc hkC hkind (Or.inr hlay) hi hd hn hfit
  refine W.putFinK hx hb ho (hts _ hlk) hi hst hcf hini (by rw [q2]; exact h6) q1 q3 (by rw [hsl]; exact k2_hasslot (q4 k hk)) rfl rfl d fun H' e1 e2 e3 => ?_
  rw [hsl] at e1 ⊢
  refine kk.u (h1.put e3 (fun kd hkd => ?_) hP2 hV2) (h2.put e2 e3 (h4 a (by rw [hKa]; exact fun z => by cases z))) (by rw [e2]; exact h3) h4 h5
  rw [hKa] at hkd
  cases hkd
  exact put_at hap hc hN hk q2 q3 q4 e1 (fun j hj => hv j (by rw [hN]; exact hj))
theorem j_sI {a : Nat} {x : Int32} {F : VT → Option β} (h : OK g own cc nL ret) (ty0 : Nat → FieldType) (hty : ∀ k, k < N → parseFieldDescriptor (Tt k).2.2.1 = some (ty0 k)) (hnm : ∀ a, a < N → ∀ b, b < N → a ≠ b → (Tt a).2.1 ≠ (Tt b).2.1) (hin : ∀ w ∈ u_ws C Tt N, w ∈ TBL) (hc : cls[ci]? = some (C, Tt, N)) (hN : nF ci = N) (hk : k < N) (hr : isR ci k = false) (hfin : (Tt k).2.2.2 = false) (hd : parseFieldDescriptor (Tt k).2.2.1 = some .int) (hlk : Cond.fieldLink own index (Tt k).1 (Tt k).2.1 (Tt k).2.2.1 ∈ TBL) (d : decode cc pc = .ok (.putfield index, 3)) (hq : pc + 3 = q) (hf : sI K V a ci k x F = some res) (kk : F (vset V a k x) = some res → J g R Q nL K P (vset V a k x) n sl q L st) : J g R Q nL K P V n sl pc L (.int x :: .ref a :: st) := by
  unfold sI at hf
  split at hf
  · rename_i hKa
    exact j_put P (vset V a k x) h ty0 hty hnm hin hc hN hk hfin hd rfl rfl hlk d hq hKa (fun _ _ => rfl) (fun _ hb => vset_ne hb) (fun j hj => flds_vset a x hr j hj) (kk hf)
  · cases hf
theorem z_nar {x : Int32} (h : x = 0 ∨ x = 1) : narrow .boolean (.int x) = .int x := by rcases h with rfl | rfl <;> rfl
theorem z_fit {x : Int32} (h : x = 0 ∨ x = 1) : fits .boolean (.int x) = true := by rcases h with rfl | rfl <;> rfl
theorem j_sB {a : Nat} {x : Int32} {F : VT → Option β} (h : OK g own cc nL ret) (ty0 : Nat → FieldType) (hty : ∀ k, k < N → parseFieldDescriptor (Tt k).2.2.1 = some (ty0 k)) (hnm : ∀ a, a < N → ∀ b, b < N → a ≠ b → (Tt a).2.1 ≠ (Tt b).2.1) (hin : ∀ w ∈ u_ws C Tt N, w ∈ TBL) (hc : cls[ci]? = some (C, Tt, N)) (hN : nF ci = N) (hk : k < N) (hr : isR ci k = false) (hfin : (Tt k).2.2.2 = false) (hd : parseFieldDescriptor (Tt k).2.2.1 = some .boolean) (hlk : Cond.fieldLink own index (Tt k).1 (Tt k).2.1 (Tt k).2.2.1 ∈ TBL) (d : decode cc pc = .ok (.putfield index, 3)) (hq : pc + 3 = q) (hf : sB K V a ci k x F = some res) (kk : F (vset V a k x) = some res → J g R Q nL K P (vset V a k x) n sl q L st) : J g R Q nL K P V n sl pc L (.int x :: .ref a :: st) := by
  unfold sB at hf
  split at hf
  · rename_i hKa
    exact j_put P (vset V a k x) h ty0 hty hnm hin hc hN hk hfin hd (z_nar hKa.2) (z_fit hKa.2) hlk d hq hKa.1 (fun _ _ => rfl) (fun _ hb => vset_ne hb) (fun j hj => flds_vset a x hr j hj) (kk hf)
  · cases hf
end FA
theorem in_of {i : Int32} {n : Nat} (h0 : 0 ≤ i) (h : i.toNatClampNeg < n) : vp_in i n := by
  rintro (z | z)
  · exact absurd h0 (Int32.not_le.mpr z)
  · omega
theorem tyT {T : TT} {D : va_G} {s : State} (hK : va_K D cls (tys T) s) : ArrOfT s T.1 .int ∧ ArrOfT s T.2.1 .boolean ∧ ArrOfT s T.2.2 (.object "QuotedLayers$Layer") := ⟨(hK.2 0 _ rfl).1, (hK.2 1 _ rfl).1, (hK.2 2 _ rfl).1⟩
theorem j_iald {a : Nat} {i : Int32} {F : Int32 → Option β} (h : OK g own cc nL ret) (d : decode cc pc = .ok (.iaload, 1)) (hq : pc + 1 = q) (hf : aI K V 0 a i F = some res) (kk : F (V a i.toNatClampNeg) = some res → J g R Q nL K P V n sl q L (.int (V a i.toNatClampNeg) :: st)) : J g R Q nL K P V n sl pc L (.int i :: .ref a :: st) := by
  obtain ⟨p, l, e, s, m, args, below, meth, c, D, T, A⟩ := g
  subst hq
  unfold aI at hf
  split at hf
  · rename_i u N hKa
    split at hf
    · rename_i hu
      obtain ⟨hu, h0, hlt⟩ := hu
      subst hu
      obtain ⟨hx, hb, hml, ho, hts, hK, -⟩ := h
      exact J.i fun H locs ls h1 h2 h3 h4 h5 => va_iald hx hb hK (h1.one hKa) 0 0 (cA := T.1) (n := N) (f := V a) rfl rfl (in_of h0 hlt) d ((kk hf).u h1 h2 h3 h4 h5)
    · cases hf
  · cases hf
theorem j_bald {a : Nat} {i : Int32} {F : Int32 → Option β} (h : OK g own cc nL ret) (d : decode cc pc = .ok (.baload, 1)) (hq : pc + 1 = q) (hf : aI K V 1 a i F = some res) (kk : F (V a i.toNatClampNeg) = some res → J g R Q nL K P V n sl q L (.int (V a i.toNatClampNeg) :: st)) : J g R Q nL K P V n sl pc L (.int i :: .ref a :: st) := by
  obtain ⟨p, l, e, s, m, args, below, meth, c, D, T, A⟩ := g
  subst hq
  unfold aI at hf
  split at hf
  · rename_i u N hKa
    split at hf
    · rename_i hu
      obtain ⟨hu, h0, hlt⟩ := hu
      subst hu
      obtain ⟨hx, hb, hml, ho, hts, hK, -⟩ := h
      exact J.i fun H locs ls h1 h2 h3 h4 h5 => va_zald hx hb hK (h1.one hKa) 0 1 (cA := T.2.1) (n := N) (f := V a) rfl rfl (in_of h0 hlt) d ((kk hf).u h1 h2 h3 h4 h5)
    · cases hf
  · cases hf
theorem j_aald {a : Nat} {i : Int32} {F : Nat → Option β} (h : OK g own cc nL ret) (d : decode cc pc = .ok (.aaload, 1)) (hq : pc + 1 = q) (hf : aQ K P a i F = some res) (kk : ∀ b : Nat, F b = some res → J g R Q nL K P V n sl q L (.ref b :: st)) : J g R Q nL K P V n sl pc L (.int i :: .ref a :: st) := by
  obtain ⟨p, l, e, s, m, args, below, meth, c, D, T, A⟩ := g
  subst hq
  unfold aQ at hf
  split at hf
  · rename_i u N hKa
    split at hf
    · rename_i hu
      obtain ⟨hu, h0, hlt⟩ := hu
      subst hu
      cases hb' : P a i.toNatClampNeg with
      | none => rw [hb'] at hf; cases hf
      | some b =>
        rw [hb'] at hf
        obtain ⟨hx, hb, hml, ho, hts, hK, -⟩ := h
        refine J.i fun H locs ls h1 h2 h3 h4 h5 => ?_
        refine va_aldq hx hb hK (h1.one hKa) 0 2 (cA := T.2.2) (n := N) (f := P a) rfl rfl (in_of h0 hlt) d ?_
        rw [hb']
        exact (kk b hf).u h1 h2 h3 h4 h5
    · cases hf
  · cases hf
theorem j_alen {a : Nat} {F : Int32 → Option β} (h : OK g own cc nL ret) (d : decode cc pc = .ok (.arraylength, 1)) (hq : pc + 1 = q) (hf : aN K a F = some res) (kk : ∀ N : Nat, F (nI N) = some res → J g R Q nL K P V n sl q L (.int (nI N) :: st)) : J g R Q nL K P V n sl pc L (.ref a :: st) := by
  obtain ⟨p, l, e, s, m, args, below, meth, c, D, T, A⟩ := g
  subst hq
  unfold aN at hf
  split at hf
  · rename_i u N hKa
    split at hf
    · rename_i hu
      obtain ⟨hx, hb, hml, ho, hts, hK, -⟩ := h
      refine J.i fun H locs ls h1 h2 h3 h4 h5 => ?_
      match u, hu with
      | 0, _ => exact va_alen hx hb hK (h1.one hKa) 0 0 (cA := T.1) (x := (N, .inl (V a))) (ty := .int) (v := nI N) rfl rfl rfl d ((kk N hf).u h1 h2 h3 h4 h5)
      | 1, _ => exact va_alen hx hb hK (h1.one hKa) 0 1 (cA := T.2.1) (x := (N, .inl (V a))) (ty := .boolean) (v := nI N) rfl rfl rfl d ((kk N hf).u h1 h2 h3 h4 h5)
      | 2, _ => exact va_alen hx hb hK (h1.one hKa) 0 2 (cA := T.2.2) (x := (N, .inr (.inr (.inr (.inr (P a)))))) (ty := .object "QuotedLayers$Layer") (v := nI N) rfl rfl rfl d ((kk N hf).u h1 h2 h3 h4 h5)
    · cases hf
  · cases hf
theorem updI (f : Nat → Int32) (i : Nat) (x : Int32) : (updV (fun j => Value.int (f j)) i (.int x)) = fun j => Value.int (upd f i x j) := by
  funext j
  by_cases hj : j = i <;> simp [updV, upd, hj]
theorem vset_self (V : VT) (a i : Nat) (x : Int32) : vset V a i x a = upd (V a) i x := by
  funext j
  by_cases hj : j = i <;> simp [vset, upd, hj]
theorem j_iast {a : Nat} {i x : Int32} {F : VT → Option β} (h : OK g own cc nL ret) (d : decode cc pc = .ok (.iastore, 1)) (hq : pc + 1 = q) (hf : sA K V a i x F = some res) (kk : F (vset V a i.toNatClampNeg x) = some res → J g R Q nL K P (vset V a i.toNatClampNeg x) n sl q L st) : J g R Q nL K P V n sl pc L (.int x :: .int i :: .ref a :: st) := by
  obtain ⟨p, l, e, s, m, args, below, meth, c, D, T, A⟩ := g
  subst hq
  unfold sA at hf
  split at hf
  · rename_i u N hKa
    split at hf
    · rename_i hu
      obtain ⟨hu, h0, hlt⟩ := hu
      subst hu
      obtain ⟨hx, hb, hml, ho, hts, hK, -⟩ := h
      refine J.i fun H locs ls h1 h2 h3 h4 h5 => ?_
      refine W.iast hx hb (h1 a _ hKa) ((tyT hK).1 N (fun j => .int (V a j))) (fun q => by cases q) (by show ¬ (i < 0 ∨ (arrV _ _ _).slots.size ≤ _); rw [arrV_size]; exact in_of h0 hlt) rfl rfl d fun H1 e z oq => ?_
      refine (kk hf).u (h1.put oq (fun kd hkd => ?_) (fun _ _ => rfl) (fun _ hb => vset_ne hb)) (h2.put z oq (h4 a (by rw [hKa]; exact fun z => by cases z))) (by rw [z]; exact h3) h4 h5
      rw [hKa] at hkd
      cases hkd
      show H1[a]? = some (vp_cell T.1 (N, .inl (vset V a i.toNatClampNeg x a)))
      rw [e, vset_self]
      show some ((vp_cell T.1 (N, .inl (V a))).setSlot _ _) = _
      rw [vp_cell_i, vp_cell_i, arrV_store, updI]
    · cases hf
  · cases hf
theorem j_zast {a : Nat} {i x : Int32} {F : VT → Option β} (h : OK g own cc nL ret) (d : decode cc pc = .ok (.bastore, 1)) (hq : pc + 1 = q) (hf : sZ K V a i x F = some res) (kk : F (vset V a i.toNatClampNeg x) = some res → J g R Q nL K P (vset V a i.toNatClampNeg x) n sl q L st) : J g R Q nL K P V n sl pc L (.int x :: .int i :: .ref a :: st) := by
  obtain ⟨p, l, e, s, m, args, below, meth, c, D, T, A⟩ := g
  subst hq
  unfold sZ at hf
  split at hf
  · rename_i u N hKa
    split at hf
    · rename_i hu
      obtain ⟨hu, ⟨h0, hlt⟩, hz⟩ := hu
      subst hu
      obtain ⟨hx, hb, hml, ho, hts, hK, -⟩ := h
      refine J.i fun H locs ls h1 h2 h3 h4 h5 => ?_
      have hnx : narrow .boolean (.int x) = .int x := z_nar hz
      refine W.zast hx hb (h1 a _ hKa) ((tyT hK).2.1 N (fun j => .int (V a j))) (fun q => by cases q) (by show ¬ (i < 0 ∨ (arrV _ _ _).slots.size ≤ _); rw [arrV_size]; exact in_of h0 hlt) rfl rfl d fun H1 e z oq => ?_
      refine (kk hf).u (h1.put oq (fun kd hkd => ?_) (fun _ _ => rfl) (fun _ hb => vset_ne hb)) (h2.put z oq (h4 a (by rw [hKa]; exact fun z => by cases z))) (by rw [z]; exact h3) h4 h5
      rw [hKa] at hkd
      cases hkd
      show H1[a]? = some (vp_cell T.2.1 (N, .inl (vset V a i.toNatClampNeg x a)))
      rw [e, vset_self]
      show some ((vp_cell T.2.1 (N, .inl (V a))).setSlot _ _) = _
      first | rw [hnx] | skip
      rw [vp_cell_i, vp_cell_i, arrV_store, updI]
    · cases hf
  · cases hf
/-! ends of a method -/
def QC (A : Nat → Prop) (D : va_G) (T : TT) (rv : Option Value) (K : KT) (P : PT) (V : VT) (mc : Nat) : Array Value → State → Outcome → State → Prop :=
  fun _ st oc t => (oc = .returned rv ∧ HR D T K P V t.heap ∧ t.heap.size = st.heap.size + mc ∧ ∀ a : Nat, K a ≠ none → A a) ∧ va_F A st t
def QF (g : GT) (rv : Option Value) (K : KT) (P : PT) (V : VT) (n sl : Nat) : State → Prop := match g with
  | (_, _, _, s, _, args, below, _, _, D, T, A) => MQ below (QC A D T rv K P V n) args s n sl A
theorem j_iret {x : Int32} {rs : Int32 × VT} (h : OK g own cc nL (some .int)) (d : decode cc pc = .ok (.ireturn, 1)) (hf : (some (x, V) : Option (Int32 × VT)) = some rs) : J g R (QF g (some (.int rs.1)) K P rs.2 n sl) nL K P V n sl pc L [.int x] := by
  obtain ⟨p, l, e, s, m, args, below, meth, c, D, T, A⟩ := g
  cases hf
  obtain ⟨hx, hb, hml, ho, hts, hK, hN, hlk, hA, hr⟩ := h
  exact J.i fun H locs ls h1 h2 h3 h4 h5 => W.iret hx hb hr (fun t ht hW => ⟨⟨rfl, by rw [ht]; exact h1, by rw [ht]; exact h3, h4⟩, h2.F ht⟩) h2.2.2 d hlk
theorem j_zret {x : Int32} {rs : Int32 × VT} (h : OK g own cc nL (some .boolean)) (d : decode cc pc = .ok (.ireturn, 1)) (hf : rB x V = some rs) : J g R (QF g (some (.int rs.1)) K P rs.2 n sl) nL K P V n sl pc L [.int x] := by
  obtain ⟨p, l, e, s, m, args, below, meth, c, D, T, A⟩ := g
  unfold rB at hf
  split at hf
  · rename_i hz
    cases hf
    obtain ⟨hx, hb, hml, ho, hts, hK, hN, hlk, hA, hr⟩ := h
    exact J.i fun H locs ls h1 h2 h3 h4 h5 => W.zret hx hb hr (z_nar hz) (fun t ht hW => ⟨⟨rfl, by rw [ht]; exact h1, by rw [ht]; exact h3, h4⟩, h2.F ht⟩) h2.2.2 d hlk
  · cases hf
theorem j_aret {x : Nat} {C : String} {rs : Nat × VT} (h : OK g own cc nL (some (.object C))) (d : decode cc pc = .ok (.areturn, 1)) (hf : (some (x, V) : Option (Nat × VT)) = some rs) : J g R (QF g (some (.ref rs.1)) K P rs.2 n sl) nL K P V n sl pc L [.ref x] := by
  obtain ⟨p, l, e, s, m, args, below, meth, c, D, T, A⟩ := g
  cases hf
  obtain ⟨hx, hb, hml, ho, hts, hK, hN, hlk, hA, hr⟩ := h
  exact J.i fun H locs ls h1 h2 h3 h4 h5 => W.aret hx hb hr (Or.inl ⟨C, rfl⟩) (Or.inr ⟨x, rfl⟩) (fun t ht hW => ⟨⟨rfl, by rw [ht]; exact h1, by rw [ht]; exact h3, h4⟩, h2.F ht⟩) h2.2.2 d hlk
theorem j_vret0 (h : OK g own cc nL none) (d : decode cc pc = .ok (.return_, 1)) : J g R (QF g none K P V n sl) nL K P V n sl pc L [] := by
  obtain ⟨p, l, e, s, m, args, below, meth, c, D, T, A⟩ := g
  obtain ⟨hx, hb, hml, ho, hts, hK, hN, hlk, hA, hr⟩ := h
  exact J.i fun H locs ls h1 h2 h3 h4 h5 => W.vret hx hb hr (fun t ht hW => ⟨⟨rfl, by rw [ht]; exact h1, by rw [ht]; exact h3, h4⟩, h2.F ht⟩) h2.2.2 d hlk
theorem j_vret {rs : Unit × VT} (h : OK g own cc nL none) (d : decode cc pc = .ok (.return_, 1)) (hf : (some ((), V) : Option (Unit × VT)) = some rs) : J g R (QF g none K P rs.2 n sl) nL K P V n sl pc L [] := by
  cases hf
  exact j_vret0 h d
theorem j_sub {L2 : List (Option Value)} (hs : lsub L2 L) (kk : J g R Q nL K P V n sl pc L2 st) : J g R Q nL K P V n sl pc L st := by
  obtain ⟨p, l, e, s, m, args, below, meth, c, D, T, A⟩ := g
  exact J.i fun H locs ls h1 h2 h3 h4 h5 => kk.u h1 h2 h3 h4 (h5.sub hs)
theorem j_widen {n2 sl2 : Nat} (hn : sl ≤ sl2) (kk : J g R Q nL K P V n sl2 pc L st) : J g R Q nL K P V n sl pc L st := by
  obtain ⟨p, l, e, s, m, args, below, meth, c, D, T, A⟩ := g
  exact J.i fun H locs ls h1 h2 h3 h4 h5 => W.widen (Nat.le_refl _) hn (kk.u h1 h2 h3 h4 h5)
/-! contracts -/
def AA (K : KT) (sz : Nat) : Nat → Prop := fun a => K a ≠ none ∨ sz ≤ a
def CTs (l : Launch) (D : va_G) (T : TT) (sz : Nat) (y : MethodName) (cc : ByteArray) (maxL : Nat) (ret : Option FieldType) (rm : Room) (K : KT) (P : PT) (V : VT) (av : List Value) (rv : Option Value) (K2 : KT) (P2 : PT) (V2 : VT) (mc ms : Nat) : Prop :=
  Met l y (.code y cc maxL ret :: TBL) rm (va_Pc av (fun U => U.heap.size = sz ∧ HR D T K P V U.heap ∧ va_K D cls (tys T) U ∧ NX U)) (QC (AA K sz) D T rv K2 P2 V2 mc) mc ms (AA K sz)
def CT (l : Launch) (D : va_G) (T : TT) (y : MethodName) (cc : ByteArray) (maxL : Nat) (ret : Option FieldType) (rm : Room) (K : KT) (P : PT) (V : VT) (av : List Value) (rv : Option Value) (V2 : VT) : Prop := ∀ sz, CTs l D T sz y cc maxL ret rm K P V av rv K P V2 0 0
def gl (g : GT) : Launch := match g with | (_, l, _) => l
def gD (g : GT) : va_G := match g with | (_, _, _, _, _, _, _, _, _, D, _) => D
def gT (g : GT) : TT := match g with | (_, _, _, _, _, _, _, _, _, _, T, _) => T
theorem lv_args_mem : ∀ (av : List Value) (k : Nat), (∀ v ∈ av, v.category = 1) → ∀ (i : Nat) (v : Value), av[i]? = some v → (k + i, v) ∈ lv_args k av
  | [], _, _, i, v, h => by simp at h
  | a :: t, k, hc, i, v, h => by
    have ha : ¬ a.category = 2 := by rw [hc a List.mem_cons_self]; decide
    unfold lv_args
    rw [if_neg ha]
    cases i with
    | zero => simp at h; subst h; exact List.mem_cons_self
    | succ i =>
      have := lv_args_mem t (k + 1) (fun v hv => hc v (List.mem_cons_of_mem _ hv)) i v (by simpa using h)
      rw [show k + 1 + i = k + (i + 1) by omega] at this
      exact List.mem_cons_of_mem _ this
theorem lg_len : ∀ (av : List Value), (∀ v ∈ av, v.category = 1) → (lg_sl av).length = av.length
  | [], _ => rfl
  | a :: t, hc => by
    have ha : ¬ a.category = 2 := by rw [hc a List.mem_cons_self]; decide
    have := lg_len t (fun v hv => hc v (List.mem_cons_of_mem _ hv))
    unfold lg_sl at this ⊢
    rw [List.flatMap_cons, if_neg ha, List.length_append, this]
    simp; omega
theorem CT_of {l : Launch} {D : va_G} {T : TT} {sz : Nat} {y : MethodName} {cc : ByteArray} {maxL : Nat} {ret : Option FieldType} {rm : Room} {K K2 : KT} {P P2 : PT} {V V2 : VT} {av : List Value} {rv : Option Value} {mc ms : Nat} (hy : plainName y.cls = true) (hc : ∀ v ∈ av, v.category = 1) (hlen : av.length ≤ maxL) (L0 : List (Option Value)) (hL0 : av.map some ++ List.replicate (maxL - av.length) none = L0)
    (body : ∀ g : GT, gsz g = sz → (y.name = "<init>" → INI g) → OK g y.cls cc maxL ret → J g rm (QF g rv K2 P2 V2 mc ms) maxL K P V 0 0 0 L0 []) : CTs l D T sz y cc maxL ret rm K P V av rv K2 P2 V2 mc ms := by
  refine Met.ofW (cc := cc) (maxL := maxL) (ret := ret) hy rfl ?_
  intro p e s m args below meth c s₁ B hml hv
  obtain ⟨rfl, hsz, hHR, hK, hNX⟩ := hv
  subst hsz
  have hts := atoms_spec (ws := _ :: TBL) B.pre
  have b := body (p, l, e, s, m, av.toArray, below, meth, c, D, T, AA K s.heap.size) rfl (fun hi => (name_of_methodNamed B.named B.method).1.trans hi) ⟨B.exec, B.bytes, hml, findClass_of_methodNamed B.named, fun w hw => hts w (List.mem_cons_of_mem _ hw), hK, hNX, B.notSynchronized, fun q hq => Or.inr hq, B.returns⟩
  have hl := lv_entry av (n := maxL) (by rw [lg_len av hc]; exact hlen)
  rw [lg_entry_eq]
  refine b.u hHR va_S.rf rfl (fun a ha => Or.inl ha) ⟨hl.1, hl.2.1, fun i v hi => ?_⟩
  have hm : (0 + i, v) ∈ lv_args 0 av := by
    refine lv_args_mem av 0 hc i v ?_
    rw [← hL0] at hi
    by_cases hil : i < (av.map some).length
    · rw [List.getElem?_append_left hil, List.getElem?_map] at hi
      cases hav : av[i]? with
      | none => rw [hav] at hi; cases hi
      | some w => rw [hav] at hi; cases hi; rfl
    · rw [List.getElem?_append_right (by omega), List.getElem?_replicate] at hi
      split at hi <;> cases hi
  have := hl.2.2 _ hm
  simpa using this
/-! calls -/
theorem run_J {p : Program} {l : Launch} {e : Env} {s : State} {m : MethodId} {args : Array Value} {below : List Frame} {meth : Method} {c : Code} {D : va_G} {T : TT} {A : Nat → Prop} {K2 : KT} {P2 : PT} {V2 : VT} {mc ms : Nat} {st0 rest : List Value} {rv : Option Value} {aa : Array Value} {H : Heap} {locs : List Loc} {ls : Array Slot}
    (hr : va_Run p l e R s m args below meth c H locs n sl mc ms (F0 m pc ls st0) rest (QC (AA K (s.heap.size + n)) D T rv K2 P2 V2 mc aa) (AA K (s.heap.size + n))) (h2 : va_S A s.heap H locs) (h3 : H.size = s.heap.size + n) (h4 : ∀ a : Nat, K a ≠ none → A a) (hA : ∀ q : Nat, s.heap.size ≤ q → A q) (h5 : lvO ls nL L)
    (kk : J (p, l, e, s, m, args, below, meth, c, D, T, A) R Q nL K2 P2 V2 (n + mc) (sl + ms) (pc + 3) L (rv.toList ++ rest)) : W p l e R s m args below meth c H locs n sl Q (F0 m pc ls st0) := by
  intro T0 hT X
  obtain ⟨v, st₀, t, T', Lc, h0, X', hL, e1, e2, ⟨⟨hv, hHR, hz, hKA⟩, hF⟩, st'⟩ := hr T0 hT X
  have hv2 : v = rv := by cases hv; rfl
  subst hv2
  have hAA : ∀ q : Nat, AA K (s.heap.size + n) q → A q := fun q hq => hq.elim (fun z => h4 q z) (fun z => hA q (by omega))
  have hS' : va_S A s.heap T'.heap (locs ++ Lc) := by
    refine ⟨by rw [e1, hz, h0, h3]; omega, fun q h1 h2' => ?_, fun q hq => ?_⟩
    · rw [e1, hF.2 q (by rw [h0, h3]; omega) (fun z => h2' (hAA q z)), h0]
      exact h2.2.1 q h1 h2'
    · rcases List.mem_append.mp hq with hq | hq
      · exact h2.2.2 q hq
      · exact hAA _ (hL q hq)
  obtain ⟨t2, a1, b1⟩ := kk.u (H := T'.heap) (locs := locs ++ Lc) (by rw [e1]; exact hHR) hS' (by rw [e1, hz, h0, h3]; omega) (fun a ha => hAA a (hKA a ha)) h5 T' rfl X'
  exact ⟨t2, st' t2 a1, b1⟩
theorem pc_blind {D : va_G} {T : TT} {sz : Nat} {av : List Value} : FrameBlind (va_Pc av (fun U => U.heap.size = sz ∧ HR D T K P V U.heap ∧ va_K D cls (tys T) U ∧ NX U)) := by
  intro a U fr mk hq
  obtain ⟨q0, q1, q2, q3, q4⟩ := hq
  exact ⟨q0, q1, q2, va_K.moved (u := U) (U := U.calling fr mk a) (Vm.Alike.refl U.vm) q3, q4.same rfl⟩
section CALL
variable {y : MethodName} {cc' : ByteArray} {maxL' : Nat} {ret' : Option FieldType} {rm : Room} {K2 : KT} {P2 : PT} {V2 : VT} {mc ms index : Nat} {rv : Option Value} {b : Nat} {As stk : List Value}
theorem hws_of {s : State} {args : Array Value} (hts : ∀ w ∈ TBL, w.before args s = true) (hcd : Cond.code y cc' maxL' ret' ∈ TBL) : GoodIn TBL (.code y cc' maxL' ret' :: TBL) := tb_good (fun w hw => by
  rcases List.mem_cons.mp hw with rfl | hw
  · exact hcd
  · exact hw)
theorem j_cV {C : String} {Tt : u_T} {N ci : Nat} (h : OK g own cc nL ret) (hC : CTs (gl g) (gD g) (gT g) (gsz g + n) y cc' maxL' ret' rm K P V (.ref b :: As) rv K2 P2 V2 mc ms) (hw1 : Cond.methodLink own index y ∈ TBL) (hw2 : Cond.instanceMethod y ∈ TBL) (hw3 : Cond.selects C y y ∈ TBL) (hw4 : Cond.initialized C ∈ TBL) (hw5 : Cond.code y cc' maxL' ret' ∈ TBL) (hcls : cls[ci]? = some (C, Tt, N)) (hd : y.cls = C ∧ y.cls ≠ "java/lang/invoke/MethodHandle" ∧ y.cls ≠ "java/lang/invoke/VarHandle" ∧ (parseMethodDescriptor y.desc).map (fun d => d.parameters.length) = some As.length) (hR : rm.frames + 1 ≤ R.frames ∧ 8 + (maxL' + 11) + rm.locals ≤ R.locals) (hrc : rm.cells = mc ∧ rm.slots = ms) (hfit : n + mc ≤ R.cells ∧ sl + ms ≤ R.slots) (hKb : K b = some (.inl ci)) (hst : (st.map fun v => v.category).sum ≤ 8) (d : decode cc pc = .ok (.invokevirtual index, 3)) (hq : pc + 3 = q) (hstk : stk = As.reverse ++ .ref b :: st)
    (kk : J g R Q nL K2 P2 V2 (n + mc) (sl + ms) q L (rv.toList ++ st)) : J g R Q nL K P V n sl pc L stk := by
  obtain ⟨p, l, e, s, m, args, below, meth, c, D, T, A⟩ := g
  subst hq; subst hstk
  obtain ⟨hx, hb, hml, ho, hts, hK, hN, hlk, hA, hr⟩ := h
  refine J.i fun H locs ls h1 h2 h3 h4 h5 => ?_
  have hG : GoodIn TBL (wsV own index C y (.code y cc' maxL' ret' :: TBL)) := tb_good (fun w hw => by
    rcases List.mem_append.mp hw with hw | hw
    · simp only [List.mem_cons, List.not_mem_nil, or_false] at hw
      rcases hw with rfl | rfl | rfl | rfl
      · exact hw1
      · exact hw2
      · exact hw3
      · exact hw4
    · exact (hws_of hts hw5 w hw).1)
  exact run_J (va_runV (As := As) (rest := st) ⟨hx, hb, hml, ho, hts⟩ hC (cwV As.length hts hG rfl hrc.1 hrc.2 hd hR) ⟨pc_blind, va_recv hK (h1.one hKb) (ci := ci) (q0 := 0) hcls rfl, fun U hU hW => ⟨rfl, by rw [hU]; exact h3, by rw [hU]; exact h1, va_K.moved hW.alike hK, hN.warm hW⟩⟩ rfl rfl h5.1 rfl (lv_room hst) d hfit) h2 h3 h4 hA h5 kk
theorem j_cS (h : OK g own cc nL ret) (hC : CTs (gl g) (gD g) (gT g) (gsz g + n) y cc' maxL' ret' rm K P V As rv K2 P2 V2 mc ms) (hw1 : Cond.methodLink own index y ∈ TBL) (hw2 : Cond.static y ∈ TBL) (hw4 : Cond.initialized y.cls ∈ TBL) (hw5 : Cond.code y cc' maxL' ret' ∈ TBL) (hd : y.cls ≠ "java/lang/invoke/MethodHandle" ∧ y.cls ≠ "java/lang/invoke/VarHandle" ∧ (parseMethodDescriptor y.desc).map (fun d => d.parameters.length) = some As.length) (hR : rm.frames + 1 ≤ R.frames ∧ 8 + (maxL' + 11) + rm.locals ≤ R.locals) (hrc : rm.cells = mc ∧ rm.slots = ms) (hfit : n + mc ≤ R.cells ∧ sl + ms ≤ R.slots) (hst : (st.map fun v => v.category).sum ≤ 8) (d : decode cc pc = .ok (.invokestatic index, 3)) (hq : pc + 3 = q) (hstk : stk = As.reverse ++ st)
    (kk : J g R Q nL K2 P2 V2 (n + mc) (sl + ms) q L (rv.toList ++ st)) : J g R Q nL K P V n sl pc L stk := by
  obtain ⟨p, l, e, s, m, args, below, meth, c, D, T, A⟩ := g
  subst hq; subst hstk
  obtain ⟨hx, hb, hml, ho, hts, hK, hN, hlk, hA, hr⟩ := h
  refine J.i fun H locs ls h1 h2 h3 h4 h5 => ?_
  have hG : GoodIn TBL (va_wsS own index y (.code y cc' maxL' ret' :: TBL)) := tb_good (fun w hw => by
    rcases List.mem_append.mp hw with hw | hw
    · simp only [List.mem_cons, List.not_mem_nil, or_false] at hw
      rcases hw with rfl | rfl | rfl
      · exact hw1
      · exact hw2
      · exact hw4
    · exact (hws_of hts hw5 w hw).1)
  exact run_J (va_runS (As := As) (rest := st) ⟨hx, hb, hml, ho, hts⟩ hC (va_cwS As.length hts hG rfl hrc.1 hrc.2 hd hR) ⟨pc_blind, fun U hU hW => ⟨rfl, by rw [hU]; exact h3, by rw [hU]; exact h1, va_K.moved hW.alike hK, hN.warm hW⟩⟩ rfl rfl h5.1 rfl (lv_room hst) d hfit) h2 h3 h4 hA h5 kk
theorem j_cSN {host : String} (h : OK g own cc nL ret) (hnx : ∀ s : State, NX s → va_Nw (.methodLinkNest own index y host) s) (hC : CTs (gl g) (gD g) (gT g) (gsz g + n) y cc' maxL' ret' rm K P V As rv K2 P2 V2 mc ms) (hw2 : Cond.static y ∈ TBL) (hw4 : Cond.initialized y.cls ∈ TBL) (hw5 : Cond.code y cc' maxL' ret' ∈ TBL) (hd : y.cls ≠ "java/lang/invoke/MethodHandle" ∧ y.cls ≠ "java/lang/invoke/VarHandle" ∧ (parseMethodDescriptor y.desc).map (fun d => d.parameters.length) = some As.length) (hR : rm.frames + 1 ≤ R.frames ∧ 8 + (maxL' + 11) + rm.locals ≤ R.locals) (hrc : rm.cells = mc ∧ rm.slots = ms) (hfit : n + mc ≤ R.cells ∧ sl + ms ≤ R.slots) (hst : (st.map fun v => v.category).sum ≤ 8) (d : decode cc pc = .ok (.invokestatic index, 3)) (hq : pc + 3 = q) (hstk : stk = As.reverse ++ st)
    (kk : J g R Q nL K2 P2 V2 (n + mc) (sl + ms) q L (rv.toList ++ st)) : J g R Q nL K P V n sl pc L stk := by
  obtain ⟨p, l, e, s, m, args, below, meth, c, D, T, A⟩ := g
  subst hq; subst hstk
  obtain ⟨hx, hb, hml, ho, hts, hK, hN, hlk, hA, hr⟩ := h
  refine J.i fun H locs ls h1 h2 h3 h4 h5 => ?_
  exact run_J (va_runSN (As := As) (rest := st) ⟨hx, hb, hml, ho, hts⟩ hC ⟨va_cnB As.length hts (hws_of hts hw5) rfl hrc.1 hrc.2 (hnx s hN) (hts _ hw4) hd hR, hts _ hw2, trivial⟩ ⟨pc_blind, fun U hU hW => ⟨rfl, by rw [hU]; exact h3, by rw [hU]; exact h1, va_K.moved hW.alike hK, hN.warm hW⟩⟩ rfl rfl h5.1 rfl (lv_room hst) d hfit) h2 h3 h4 hA h5 kk
theorem j_cI (h : OK g own cc nL ret) (hC : CTs (gl g) (gD g) (gT g) (gsz g + n) y cc' maxL' none rm K P V (.ref b :: As) none K2 P2 V2 mc ms) (hw1 : Cond.methodLink own index y ∈ TBL) (hw2 : Cond.instanceMethod y ∈ TBL) (hw4 : Cond.initialized y.cls ∈ TBL) (hw5 : Cond.code y cc' maxL' none ∈ TBL) (hy : y.name = "<init>") (hd : y.cls ≠ "java/lang/invoke/MethodHandle" ∧ y.cls ≠ "java/lang/invoke/VarHandle" ∧ (parseMethodDescriptor y.desc).map (fun d => d.parameters.length) = some As.length) (hR : rm.frames + 1 ≤ R.frames ∧ 8 + (maxL' + 11) + rm.locals ≤ R.locals) (hrc : rm.cells = mc ∧ rm.slots = ms) (hfit : n + mc ≤ R.cells ∧ sl + ms ≤ R.slots) (hst : (st.map fun v => v.category).sum ≤ 8) (d : decode cc pc = .ok (.invokespecial index, 3)) (hq : pc + 3 = q) (hstk : stk = As.reverse ++ .ref b :: st)
    (kk : J g R Q nL K2 P2 V2 (n + mc) (sl + ms) q L st) : J g R Q nL K P V n sl pc L stk := by
  obtain ⟨p, l, e, s, m, args, below, meth, c, D, T, A⟩ := g
  subst hq; subst hstk
  obtain ⟨hx, hb, hml, ho, hts, hK, hN, hlk, hA, hr⟩ := h
  refine J.i fun H locs ls h1 h2 h3 h4 h5 => ?_
  exact run_J (va_runI (As := As) (rest := st) ⟨hx, hb, hml, ho, hts⟩ hC (cwI As.length hts (hws_of hts hw5) rfl hrc.1 hrc.2 (hts _ hw4) (hts _ hw1) (hts _ hw2) hy hd hR) ⟨pc_blind, fun U hU hW => ⟨rfl, by rw [hU]; exact h3, by rw [hU]; exact h1, va_K.moved hW.alike hK, hN.warm hW⟩⟩ rfl rfl h5.1 rfl (lv_room hst) d hfit) h2 h3 h4 hA h5 kk
end CALL
theorem j_objInit {a idx : Nat} (h : OK g own cc nL ret) (hw1 : Cond.methodLink own idx Lib.objectInit ∈ TBL) (hw2 : Cond.instanceMethod Lib.objectInit ∈ TBL) (hw3 : Cond.code Lib.objectInit ⟨#[0xb1]⟩ 1 none ∈ TBL) (hR : 1 ≤ R.frames ∧ (st.map fun v => v.category).sum + 12 ≤ R.locals) (d : decode cc pc = .ok (.invokespecial idx, 3)) (hq : pc + 3 = q) (kk : J g R Q nL K P V n sl q L st) : J g R Q nL K P V n sl pc L (.ref a :: st) := by
  obtain ⟨p, l, e, s, m, args, below, meth, c, D, T, A⟩ := g
  subst hq
  obtain ⟨hx, hb, hml, ho, hts, hK, hN, hlk, hA, hr⟩ := h
  refine J.i fun H locs ls h1 h2 h3 h4 h5 => ?_
  refine W.objInit hx hb ho (hts _ hw1) (hts _ hw2) (hts _ hw3) rfl (by rw [hml]; exact h5.1) rfl d hR.1 (by simpa [JFrame.monitorRoom] using hR.2) ?_
  exact kk.u h1 h2 h3 h4 h5
end RW
end BASE
end
