/-! rows for constructors: what is read is known -/
section RW4
variable {g : GT} {R : Room} {Q : State → Prop} {nL : Nat} {K : KT} {P : PT} {V : VT} {n sl pc q : Nat} {L : List (Option Value)} {st : List Value} {own : String} {cc : ByteArray} {ret : Option FieldType}
variable {ci k index N : Nat} {C : String} {Tt : u_T}
theorem j_sIK {a : Nat} {x : Int32} (h : OK g own cc nL ret) (ty0 : Nat → FieldType) (hty : ∀ k, k < N → parseFieldDescriptor (Tt k).2.2.1 = some (ty0 k)) (hnm : ∀ a, a < N → ∀ b, b < N → a ≠ b → (Tt a).2.1 ≠ (Tt b).2.1) (hin : ∀ w ∈ u_ws C Tt N, w ∈ TBL) (hc : cls[ci]? = some (C, Tt, N)) (hN : nF ci = N) (hk : k < N) (hr : isR ci k = false) (hfin : (Tt k).2.2.2 = false) (hd : parseFieldDescriptor (Tt k).2.2.1 = some .int) (hlk : Cond.fieldLink own index (Tt k).1 (Tt k).2.1 (Tt k).2.2.1 ∈ TBL) (d : decode cc pc = .ok (.putfield index, 3)) (hq : pc + 3 = q) (hK : K a = some (.inl ci)) (kk : J g R Q nL K P (vset V a k x) n sl q L st) : J g R Q nL K P V n sl pc L (.int x :: .ref a :: st) :=
  j_sI (F := fun _ => some ()) (res := ()) h ty0 hty hnm hin hc hN hk hr hfin hd hlk d hq (by unfold sI; rw [if_pos hK]) (fun _ => kk)
theorem j_sBK {a : Nat} {x : Int32} (h : OK g own cc nL ret) (ty0 : Nat → FieldType) (hty : ∀ k, k < N → parseFieldDescriptor (Tt k).2.2.1 = some (ty0 k)) (hnm : ∀ a, a < N → ∀ b, b < N → a ≠ b → (Tt a).2.1 ≠ (Tt b).2.1) (hin : ∀ w ∈ u_ws C Tt N, w ∈ TBL) (hc : cls[ci]? = some (C, Tt, N)) (hN : nF ci = N) (hk : k < N) (hr : isR ci k = false) (hfin : (Tt k).2.2.2 = false) (hd : parseFieldDescriptor (Tt k).2.2.1 = some .boolean) (hlk : Cond.fieldLink own index (Tt k).1 (Tt k).2.1 (Tt k).2.2.1 ∈ TBL) (d : decode cc pc = .ok (.putfield index, 3)) (hq : pc + 3 = q) (hK : K a = some (.inl ci)) (hx : x = 0 ∨ x = 1) (kk : J g R Q nL K P (vset V a k x) n sl q L st) : J g R Q nL K P V n sl pc L (.int x :: .ref a :: st) :=
  j_sB (F := fun _ => some ()) (res := ()) h ty0 hty hnm hin hc hN hk hr hfin hd hlk d hq (by unfold sB; rw [if_pos ⟨hK, hx⟩]) (fun _ => kk)
theorem j_sAK {a j : Nat} {i x : Int32} (h : OK g own cc nL ret) (d : decode cc pc = .ok (.iastore, 1)) (hq : pc + 1 = q) (hK : K a = some (.inr (0, N))) (hi : 0 ≤ i ∧ i.toNatClampNeg = j) (hj : j < N) (kk : J g R Q nL K P (vset V a j x) n sl q L st) : J g R Q nL K P V n sl pc L (.int x :: .int i :: .ref a :: st) := by
  obtain ⟨h0, rfl⟩ := hi
  exact j_iast (F := fun _ => some ()) (res := ()) h d hq (by unfold sA; rw [hK]; exact if_pos ⟨rfl, h0, hj⟩) (fun _ => kk)
theorem j_gRK {a b : Nat} (h : OK g own cc nL ret) (hin : ∀ w ∈ u_ws C Tt N, w ∈ TBL) (hc : cls[ci]? = some (C, Tt, N)) (hN : nF ci = N) (hk : k < N) (hr : isR ci k = true) (hlk : Cond.fieldLink own index (Tt k).1 (Tt k).2.1 (Tt k).2.2.1 ∈ TBL) (d : decode cc pc = .ok (.getfield index, 3)) (hq : pc + 3 = q) (hK : K a = some (.inl ci)) (hP : P a k = some b) (kk : J g R Q nL K P V n sl q L (.ref b :: st)) : J g R Q nL K P V n sl pc L (.ref a :: st) := by
  refine j_gR (F := fun z => if z = b then some () else none) (res := ()) h hin hc hN hk hr hlk d hq (by unfold gR; rw [if_pos hK, hP]; exact if_pos rfl) (fun z hz => ?_)
  have hzb : z = b := by
    by_cases hzb : z = b
    · exact hzb
    · rw [if_neg hzb] at hz; cases hz
  rw [hzb]; exact kk
theorem j_alenK {a t : Nat} {v : Int32} (h : OK g own cc nL ret) (d : decode cc pc = .ok (.arraylength, 1)) (hq : pc + 1 = q) (hK : K a = some (.inr (t, N))) (ht : t < 3) (hv : nI N = v) (kk : J g R Q nL K P V n sl q L (.int v :: st)) : J g R Q nL K P V n sl pc L (.ref a :: st) := by
  refine j_alen (F := fun z => if z = v then some () else none) (res := ()) h d hq (by unfold aN; rw [hK]; show (if t < 3 then _ else _) = _; rw [if_pos ht]; exact if_pos hv) (fun z hz => ?_)
  have hzb : nI z = v := by
    by_cases hzb : nI z = v
    · exact hzb
    · rw [if_neg hzb] at hz; cases hz
  rw [hzb]; exact kk
theorem j_geT {x y : Int32} {off : Int} (tgt : Nat) (h : OK g own cc nL ret) (d : decode cc pc = .ok (.if_icmp .ge off, 3)) (ht : (pc : Int) + off = (tgt : Int)) (hxy : ¬ x < y) (kk : J g R Q nL K P V n sl tgt L st) : J g R Q nL K P V n sl pc L (.int y :: .int x :: st) :=
  j_icmp_ge (FA := (none : Option Unit)) (FB := some ()) (res := ()) tgt h d ht rfl (if_neg hxy) (fun _ => kk) (fun hf => by cases hf)
theorem j_geF {x y : Int32} {off : Int} (tgt : Nat) (h : OK g own cc nL ret) (d : decode cc pc = .ok (.if_icmp .ge off, 3)) (ht : (pc : Int) + off = (tgt : Int)) (hq : pc + 3 = q) (hxy : x < y) (kk : J g R Q nL K P V n sl q L st) : J g R Q nL K P V n sl pc L (.int y :: .int x :: st) :=
  j_icmp_ge (FA := some ()) (FB := (none : Option Unit)) (res := ()) tgt h d ht hq (if_pos hxy) (fun hf => by cases hf) (fun _ => kk)
theorem j_leF {x : Int32} {off : Int} (tgt : Nat) (h : OK g own cc nL ret) (d : decode cc pc = .ok (.ifCond .le off, 3)) (ht : (pc : Int) + off = (tgt : Int)) (hq : pc + 3 = q) (hxy : 0 < x) (kk : J g R Q nL K P V n sl q L st) : J g R Q nL K P V n sl pc L (.int x :: st) :=
  j_if_le (FA := some ()) (FB := (none : Option Unit)) (res := ()) tgt h d ht hq (if_pos hxy) (fun hf => by cases hf) (fun _ => kk)
theorem j_cVvK {C : String} {ci : Nat} {y : MethodName} {cc' : ByteArray} {maxL' : Nat} {ret' : Option FieldType} {rm : Room} {b : Nat} {As stk : List Value} {V2 : VT} (h : OK g own cc nL ret) (hstk : stk = As.reverse ++ .ref b :: st) (hK : K b = some (.inl ci)) (hC : CT (gl g) (gD g) (gT g) y cc' maxL' ret' rm K P V (.ref b :: As) none V2) (hw1 : Cond.methodLink own index y ∈ TBL) (hw : VW C y cc' maxL' ret' As.length ci) (hR : RF rm R maxL') (hn : n ≤ R.cells ∧ sl ≤ R.slots) (hst : (st.map fun v => v.category).sum ≤ 8) (d : decode cc pc = .ok (.invokevirtual index, 3)) (hq : pc + 3 = q)
    (kk : J g R Q nL K P V2 n sl q L st) : J g R Q nL K P V n sl pc L stk := by
  obtain ⟨w2, w3, w4, w5, ⟨Tt, N, w6⟩, w7⟩ := hw
  exact j_cV h (hC (gsz g + n)) hw1 w2 w3 w4 w5 w6 w7 hR.1 ⟨hR.2.1, hR.2.2⟩ hn hK hst d hq hstk kk
end RW4
/-- what a Row is, in kinds and references: its own cell r, its numbers at r + 1, room for N -/
def RowK (K : KT) (P : PT) (r N : Nat) : Prop := K r = some (.inl 2) ∧ P r 0 = some (r + 1) ∧ K (r + 1) = some (.inr (0, N))
theorem kset_ne {K : KT} {a b : Nat} {kd : Nat ⊕ (Nat × Nat)} (h : b ≠ a) : kset K a kd b = K b := by simp [kset, h]
theorem kset_eq {K : KT} {a : Nat} {kd : Nat ⊕ (Nat × Nat)} : kset K a kd a = some kd := by simp [kset]
theorem nI_pos3 {N : Nat} (h : 0 < N) (h2 : N < 100000000) : 0 < nI N := by
  refine Int32.lt_iff_toInt_lt.mpr ?_
  rw [nI_toInt (by omega)]
  show (0 : Int) < N
  omega
theorem im_obj : Cond.instanceMethod Lib.objectInit ∈ TBL := tm (i := 53) (by decide +kernel) (by decide +kernel)
theorem cd_obj : Cond.code Lib.objectInit ⟨#[0xb1]⟩ 1 none ∈ TBL := tm (i := 54) (by decide +kernel) (by decide +kernel)
theorem arI : Cond.arrayClass .int ∈ TBL := tm (i := 71) (by decide +kernel) (by decide +kernel)
theorem arZ : Cond.arrayClass .boolean ∈ TBL := tm (i := 593) (by decide +kernel) (by decide +kernel)
theorem ml_X4_3o : Cond.methodLink RX4 3 Lib.objectInit ∈ TBL := tm (i := 60) (by decide +kernel) (by decide +kernel)
theorem ml_X1_3o : Cond.methodLink RX1 3 Lib.objectInit ∈ TBL := tm (i := 84) (by decide +kernel) (by decide +kernel)
theorem cl_X1_21 : Cond.classLink RX1 21 RX4 ∈ TBL := tm (i := 85) (by decide +kernel) (by decide +kernel)
theorem ins_X4 : Cond.instantiable RX4 3 ∈ TBL := tm (i := 56) (by decide +kernel) (by decide +kernel)
theorem im_X4_init : Cond.instanceMethod yX4_init ∈ TBL := tm (i := 58) (by decide +kernel) (by decide +kernel)
theorem cd_X4_init : Cond.code yX4_init cX4_init 2 none ∈ TBL := tm (i := 59) (by decide +kernel) (by decide +kernel)
theorem kn_6 : (6 : Int32) = nI 6 := by decide +kernel
theorem ml_X1_23 : Cond.methodLink RX1 23 yX4_init ∈ TBL := tm (i := 86) (by decide +kernel) (by decide +kernel)
theorem ml_X3_3o : Cond.methodLink RX3 3 Lib.objectInit ∈ TBL := tm (i := 130) (by decide +kernel) (by decide +kernel)
theorem cl_X3_9 : Cond.classLink RX3 9 RX4 ∈ TBL := tm (i := 131) (by decide +kernel) (by decide +kernel)
theorem kn_400 : (400 : Int32) = nI 400 := by decide +kernel
theorem ml_X3_11 : Cond.methodLink RX3 11 yX4_init ∈ TBL := tm (i := 132) (by decide +kernel) (by decide +kernel)
theorem ml_X5_3o : Cond.methodLink RX5 3 Lib.objectInit ∈ TBL := tm (i := 77) (by decide +kernel) (by decide +kernel)
theorem cl_X5_9 : Cond.classLink RX5 9 RX1 ∈ TBL := tm (i := 78) (by decide +kernel) (by decide +kernel)
theorem ins_X1 : Cond.instantiable RX1 4 ∈ TBL := tm (i := 80) (by decide +kernel) (by decide +kernel)
theorem im_X1_init : Cond.instanceMethod yX1_init ∈ TBL := tm (i := 82) (by decide +kernel) (by decide +kernel)
theorem cd_X1_init : Cond.code yX1_init cX1_init 1 none ∈ TBL := tm (i := 83) (by decide +kernel) (by decide +kernel)
theorem ml_X5_17 : Cond.methodLink RX5 17 yX1_init ∈ TBL := tm (i := 81) (by decide +kernel) (by decide +kernel)
theorem cl_X5_22 : Cond.classLink RX5 22 RX4 ∈ TBL := tm (i := 100) (by decide +kernel) (by decide +kernel)
theorem kn_5 : (5 : Int32) = nI 5 := by decide +kernel
theorem ml_X5_24 : Cond.methodLink RX5 24 yX4_init ∈ TBL := tm (i := 101) (by decide +kernel) (by decide +kernel)
theorem kn_12 : (12 : Int32) = nI 12 := by decide +kernel
theorem fl_X5_34 : Cond.fieldLink RX5 34 (TX5 4).1 (TX5 4).2.1 (TX5 4).2.2.1 ∈ TBL := tm (i := 112) (by decide +kernel) (by decide +kernel)
theorem kq_1 : (0 : Int32) + Int32.ofInt 1 = 1 := by decide +kernel
theorem kq_2 : (1 : Int32) + Int32.ofInt 1 = 2 := by decide +kernel
theorem kq_3 : (2 : Int32) + Int32.ofInt 1 = 3 := by decide +kernel
theorem kq_4 : (3 : Int32) + Int32.ofInt 1 = 4 := by decide +kernel
theorem kq_5 : (4 : Int32) + Int32.ofInt 1 = 5 := by decide +kernel
theorem ml_X5_38 : Cond.methodLink RX5 38 yX4_add ∈ TBL := tm (i := 102) (by decide +kernel) (by decide +kernel)
theorem ml_X6_1o : Cond.methodLink RX6 1 Lib.objectInit ∈ TBL := tm (i := 52) (by decide +kernel) (by decide +kernel)
theorem cl_X6_7 : Cond.classLink RX6 7 RX4 ∈ TBL := tm (i := 55) (by decide +kernel) (by decide +kernel)
theorem kn_60 : (60 : Int32) = nI 60 := by decide +kernel
theorem ml_X6_11 : Cond.methodLink RX6 11 yX4_init ∈ TBL := tm (i := 57) (by decide +kernel) (by decide +kernel)
theorem cl_X6_18 : Cond.classLink RX6 18 RX5 ∈ TBL := tm (i := 72) (by decide +kernel) (by decide +kernel)
theorem ins_X5 : Cond.instantiable RX5 5 ∈ TBL := tm (i := 73) (by decide +kernel) (by decide +kernel)
theorem im_X5_init : Cond.instanceMethod yX5_init ∈ TBL := tm (i := 75) (by decide +kernel) (by decide +kernel)
theorem cd_X5_init : Cond.code yX5_init cX5_init 2 none ∈ TBL := tm (i := 76) (by decide +kernel) (by decide +kernel)
theorem ml_X6_20 : Cond.methodLink RX6 20 yX5_init ∈ TBL := tm (i := 74) (by decide +kernel) (by decide +kernel)
theorem cl_X6_31 : Cond.classLink RX6 31 RX3 ∈ TBL := tm (i := 125) (by decide +kernel) (by decide +kernel)
theorem ins_X3 : Cond.instantiable RX3 5 ∈ TBL := tm (i := 126) (by decide +kernel) (by decide +kernel)
theorem im_X3_init : Cond.instanceMethod yX3_init ∈ TBL := tm (i := 128) (by decide +kernel) (by decide +kernel)
theorem cd_X3_init : Cond.code yX3_init cX3_init 1 none ∈ TBL := tm (i := 129) (by decide +kernel) (by decide +kernel)
theorem ml_X6_33 : Cond.methodLink RX6 33 yX3_init ∈ TBL := tm (i := 127) (by decide +kernel) (by decide +kernel)
theorem ml_X7_1o : Cond.methodLink RX7 1 Lib.objectInit ∈ TBL := tm (i := 525) (by decide +kernel) (by decide +kernel)
theorem ks_1300 : (Int16.ofInt (1300)).toInt32 = (1300 : Int32) := by decide +kernel
theorem ks_140 : (Int16.ofInt (140)).toInt32 = (140 : Int32) := by decide +kernel
def adV (V : VT) (r : Nat) (x : Int32) : VT := vset (vset V (r + 1) 0 x) r 1 (0 + (1 : Int32))
def iK_X4 (K : KT) (a : Nat) (N : Nat) : KT := (kset K (a + 1) (.inr (0, N)))
def iP_X4 (P : PT) (a : Nat) : PT := (pset P a 0 (some (a + 1)))
def iV_X4 (V : VT) (a : Nat) : VT := (vrow (vset (vset V a 1 (0 : Int32)) a 2 (0 : Int32)) (a + 1) (fun _ => 0))
def rm_X4_init (N : Nat) : Room := { frames := 1, cells := 1, slots := 0 + N, locals := 12 }
set_option maxRecDepth 20000 in
theorem ct_X4_init (l : Launch) (D : va_G) (T : TT) {K : KT} {P : PT} {V : VT} {a sz N : Nat} (hs : sz = a + 1) (hK0 : K a = some (.inl 2)) (hN0 : 0 < N) (hN1 : N < 100000000) : CTs l D T sz yX4_init cX4_init 2 none (rm_X4_init N) K P V [.ref a, .int (nI N)] none (iK_X4 K a N) (iP_X4 P a) (iV_X4 V a) 1 (0 + N) := by
  refine CT_of pn_X4 (cat_a (cat_i cat_0)) (Nat.le_of_ble_eq_true rfl) [some (.ref a), some (.int (nI N))] rfl (fun g hsz hini h => ?_)
  have hini := hini rfl
  rw [hs] at hsz
  refine j_aload_n (q := 1) h dX4_init_0 rfl rfl ?_
  refine j_objInit (q := 4) h ml_X4_3o im_obj cd_obj ⟨Nat.le_of_ble_eq_true rfl, Nat.le_of_ble_eq_true rfl⟩ dX4_init_1 rfl ?_
  refine j_aload_n (q := 5) h dX4_init_4 rfl rfl ?_
  refine j_iconst (q := 6) (0) h dX4_init_5 ki_0 rfl ?_
  refine j_sIK (q := 9) (ci := 2) (k := 1) h tyX4 tyX4_ok nmX4 uin_X4 rfl rfl (by decide) rfl rfl (by decide +kernel) fl_X4_9 dX4_init_6 rfl (by simp [kset, hK0, Nat.add_assoc]) ?_
  refine j_aload_n (q := 10) h dX4_init_9 rfl rfl ?_
  refine j_iconst (q := 11) (0) h dX4_init_10 ki_0 rfl ?_
  refine j_sBK (q := 14) (ci := 2) (k := 2) h tyX4 tyX4_ok nmX4 uin_X4 rfl rfl (by decide) rfl rfl (by decide +kernel) fl_X4_15 dX4_init_11 rfl (by simp [kset, hK0, Nat.add_assoc]) (by decide) ?_
  refine j_aload_n (q := 15) h dX4_init_14 rfl rfl ?_
  refine j_iload_n (q := 16) h dX4_init_15 rfl rfl ?_
  refine j_leF (q := 19) 23 h dX4_init_16 (by decide) rfl (nI_pos3 hN0 hN1) ?_
  refine j_iload_n (q := 20) h dX4_init_19 rfl rfl ?_
  refine j_goto 24 h dX4_init_20 (by decide) ?_
  refine j_newa (q := 26) (N := N) (a + 1) h (by omega) rfl hN1 arI ⟨Nat.le_refl _, Nat.le_refl _⟩ dX4_init_24 rfl ?_
  refine j_pF (q := 29) (ci := 2) (k := 0) h hini tyX4 tyX4_ok nmX4 uin_X4 rfl rfl (by decide) rfl rfl rfl (tyX4_ok 0 (by decide)) rfl rfl fl_X4_19 dX4_init_26 rfl (by simp [kset, hK0, Nat.add_assoc]) ?_
  exact j_vret0 h dX4_init_29
def iK_X1 (K : KT) (a : Nat) : KT := (iK_X4 (kset K (a + 1) (.inl 2)) (a + 1) 6)
def iP_X1 (P : PT) (a : Nat) : PT := (pset (iP_X4 (prow P (a + 1) (fun _ => none)) (a + 1)) a 3 (some (a + 1)))
def iV_X1 (V : VT) (a : Nat) : VT := (iV_X4 (vrow (vset (vset (vset V a 0 (-6 : Int32)) a 1 (0 : Int32)) a 2 (-6 : Int32)) (a + 1) (fun _ => 0)) (a + 1))
def rm_X1_init : Room := { frames := 2, cells := 2, slots := 9, locals := 33 }
set_option maxRecDepth 20000 in
theorem ct_X1_init (l : Launch) (D : va_G) (T : TT) {K : KT} {P : PT} {V : VT} {a sz : Nat} (hs : sz = a + 1) (hK0 : K a = some (.inl 0)) : CTs l D T sz yX1_init cX1_init 1 none rm_X1_init K P V [.ref a] none (iK_X1 K a) (iP_X1 P a) (iV_X1 V a) 2 (9) := by
  refine CT_of pn_X1 (cat_a cat_0) (Nat.le_of_ble_eq_true rfl) [some (.ref a)] rfl (fun g hsz hini h => ?_)
  have hini := hini rfl
  rw [hs] at hsz
  refine j_aload_n (q := 1) h dX1_init_0 rfl rfl ?_
  refine j_objInit (q := 4) h ml_X1_3o im_obj cd_obj ⟨Nat.le_of_ble_eq_true rfl, Nat.le_of_ble_eq_true rfl⟩ dX1_init_1 rfl ?_
  refine j_aload_n (q := 5) h dX1_init_4 rfl rfl ?_
  refine j_bipush (q := 7) (-6) h dX1_init_5 kb_m6 rfl ?_
  refine j_sIK (q := 10) (ci := 0) (k := 0) h tyX1 tyX1_ok nmX1 uin_X1 rfl rfl (by decide) rfl rfl (by decide +kernel) fl_X1_9 dX1_init_7 rfl (by simp [kset, iK_X4, hK0, Nat.add_assoc]) ?_
  refine j_aload_n (q := 11) h dX1_init_10 rfl rfl ?_
  refine j_iconst (q := 12) (0) h dX1_init_11 ki_0 rfl ?_
  refine j_sIK (q := 15) (ci := 0) (k := 1) h tyX1 tyX1_ok nmX1 uin_X1 rfl rfl (by decide) rfl rfl (by decide +kernel) fl_X1_15 dX1_init_12 rfl (by simp [kset, iK_X4, hK0, Nat.add_assoc]) ?_
  refine j_aload_n (q := 16) h dX1_init_15 rfl rfl ?_
  refine j_bipush (q := 18) (-6) h dX1_init_16 kb_m6 rfl ?_
  refine j_sIK (q := 21) (ci := 0) (k := 2) h tyX1 tyX1_ok nmX1 uin_X1 rfl rfl (by decide) rfl rfl (by decide +kernel) fl_X1_18 dX1_init_18 rfl (by simp [kset, iK_X4, hK0, Nat.add_assoc]) ?_
  refine j_aload_n (q := 22) h dX1_init_21 rfl rfl ?_
  refine j_new (q := 25) (ci := 2) (a + 1) h (by omega) tyX4 tyX4_ok uin_X4 rfl rfl (by decide) cl_X1_21 ins_X4 ini_X4 ⟨Nat.le_of_ble_eq_true rfl, Nat.le_of_ble_eq_true rfl⟩ dX1_init_22 rfl ?_
  refine j_dup (q := 26) h dX1_init_25 rfl rfl ?_
  refine j_bipush (q := 28) (6) h dX1_init_26 kb_6 rfl ?_
  refine j_cI (q := 31) (As := [.int (nI 6)]) h (ct_X4_init (N := 6) _ _ _ (by omega) (by simp [kset, iK_X4, hK0, Nat.add_assoc]) (by decide) (by decide)) ml_X1_23 im_X4_init ini_X4 cd_X4_init rfl (by decide +kernel) ⟨Nat.le_of_ble_eq_true rfl, Nat.le_of_ble_eq_true rfl⟩ ⟨rfl, rfl⟩ ⟨Nat.le_of_ble_eq_true rfl, Nat.le_of_ble_eq_true rfl⟩ (Nat.le_of_ble_eq_true rfl) dX1_init_28 rfl rfl ?_
  refine j_pF (q := 34) (ci := 0) (k := 3) h hini tyX1 tyX1_ok nmX1 uin_X1 rfl rfl (by decide) rfl rfl rfl (tyX1_ok 3 (by decide)) rfl rfl fl_X1_26 dX1_init_31 rfl (by simp [kset, iK_X4, hK0, Nat.add_assoc]) ?_
  exact j_vret0 h dX1_init_34
theorem iK_X1_lt {K : KT} {a b : Nat} (hb : b ≤ a) : iK_X1 K a b = K b := by
  have hne : ∀ k : Nat, 0 < k → ¬ b = a + k := fun k hk => by omega
  have hle : ∀ k : Nat, b ≤ a + k := fun k => by omega
  simp [iK_X1, kset, iK_X4, hne, hle, Nat.add_assoc]
theorem iP_X1_lt {P : PT} {a b : Nat} (hb : b < a) : iP_X1 P a b = P b := by
  have hne : ∀ k : Nat, ¬ b = a + k := fun k => by omega
  have hna : ¬ b = a := by omega
  have hlt : ∀ k : Nat, b < a + k := fun k => by omega
  funext j
  simp [iP_X1, pset, prow, iP_X4, hne, hna, hlt, Nat.add_assoc]
theorem iV_X1_lt {V : VT} {a b : Nat} (hb : b < a) : iV_X1 V a b = V b := by
  have hne : ∀ k : Nat, ¬ b = a + k := fun k => by omega
  have hna : ¬ b = a := by omega
  have hlt : ∀ k : Nat, b < a + k := fun k => by omega
  funext j
  simp [iV_X1, vset, vrow, adV, iV_X4, hne, hna, hlt, Nat.add_assoc]
def iK_X3 (K : KT) (a : Nat) : KT := (iK_X4 (kset (iK_X4 (kset K (a + 1) (.inl 2)) (a + 1) 400) (a + 3) (.inl 2)) (a + 3) 400)
def iP_X3 (P : PT) (a : Nat) : PT := (pset (iP_X4 (prow (pset (iP_X4 (prow P (a + 1) (fun _ => none)) (a + 1)) a 0 (some (a + 1))) (a + 3) (fun _ => none)) (a + 3)) a 1 (some (a + 3)))
def iV_X3 (V : VT) (a : Nat) : VT := (vset (vset (vset (iV_X4 (vrow (iV_X4 (vrow V (a + 1) (fun _ => 0)) (a + 1)) (a + 3) (fun _ => 0)) (a + 3)) a 2 (0 : Int32)) a 3 (-6 : Int32)) a 4 (-6 : Int32))
def rm_X3_init : Room := { frames := 2, cells := 4, slots := 806, locals := 33 }
set_option maxRecDepth 20000 in
theorem ct_X3_init (l : Launch) (D : va_G) (T : TT) {K : KT} {P : PT} {V : VT} {a sz : Nat} (hs : sz = a + 1) (hK0 : K a = some (.inl 1)) : CTs l D T sz yX3_init cX3_init 1 none rm_X3_init K P V [.ref a] none (iK_X3 K a) (iP_X3 P a) (iV_X3 V a) 4 (806) := by
  refine CT_of pn_X3 (cat_a cat_0) (Nat.le_of_ble_eq_true rfl) [some (.ref a)] rfl (fun g hsz hini h => ?_)
  have hini := hini rfl
  rw [hs] at hsz
  refine j_aload_n (q := 1) h dX3_init_0 rfl rfl ?_
  refine j_objInit (q := 4) h ml_X3_3o im_obj cd_obj ⟨Nat.le_of_ble_eq_true rfl, Nat.le_of_ble_eq_true rfl⟩ dX3_init_1 rfl ?_
  refine j_aload_n (q := 5) h dX3_init_4 rfl rfl ?_
  refine j_new (q := 8) (ci := 2) (a + 1) h (by omega) tyX4 tyX4_ok uin_X4 rfl rfl (by decide) cl_X3_9 ins_X4 ini_X4 ⟨Nat.le_of_ble_eq_true rfl, Nat.le_of_ble_eq_true rfl⟩ dX3_init_5 rfl ?_
  refine j_dup (q := 9) h dX3_init_8 rfl rfl ?_
  refine j_sipush (q := 12) (400) h dX3_init_9 ks_400 rfl ?_
  refine j_cI (q := 15) (As := [.int (nI 400)]) h (ct_X4_init (N := 400) _ _ _ (by omega) (by simp [kset, iK_X4, hK0, Nat.add_assoc]) (by decide) (by decide)) ml_X3_11 im_X4_init ini_X4 cd_X4_init rfl (by decide +kernel) ⟨Nat.le_of_ble_eq_true rfl, Nat.le_of_ble_eq_true rfl⟩ ⟨rfl, rfl⟩ ⟨Nat.le_of_ble_eq_true rfl, Nat.le_of_ble_eq_true rfl⟩ (Nat.le_of_ble_eq_true rfl) dX3_init_12 rfl rfl ?_
  refine j_pF (q := 18) (ci := 1) (k := 0) h hini tyX3 tyX3_ok nmX3 uin_X3 rfl rfl (by decide) rfl rfl rfl (tyX3_ok 0 (by decide)) rfl rfl fl_X3_14 dX3_init_15 rfl (by simp [kset, iK_X4, hK0, Nat.add_assoc]) ?_
  refine j_aload_n (q := 19) h dX3_init_18 rfl rfl ?_
  refine j_new (q := 22) (ci := 2) (a + 3) h (by omega) tyX4 tyX4_ok uin_X4 rfl rfl (by decide) cl_X3_9 ins_X4 ini_X4 ⟨Nat.le_of_ble_eq_true rfl, Nat.le_of_ble_eq_true rfl⟩ dX3_init_19 rfl ?_
  refine j_dup (q := 23) h dX3_init_22 rfl rfl ?_
  refine j_sipush (q := 26) (400) h dX3_init_23 ks_400 rfl ?_
  refine j_cI (q := 29) (As := [.int (nI 400)]) h (ct_X4_init (N := 400) _ _ _ (by omega) (by simp [kset, iK_X4, hK0, Nat.add_assoc]) (by decide) (by decide)) ml_X3_11 im_X4_init ini_X4 cd_X4_init rfl (by decide +kernel) ⟨Nat.le_of_ble_eq_true rfl, Nat.le_of_ble_eq_true rfl⟩ ⟨rfl, rfl⟩ ⟨Nat.le_of_ble_eq_true rfl, Nat.le_of_ble_eq_true rfl⟩ (Nat.le_of_ble_eq_true rfl) dX3_init_26 rfl rfl ?_
  refine j_pF (q := 32) (ci := 1) (k := 1) h hini tyX3 tyX3_ok nmX3 uin_X3 rfl rfl (by decide) rfl rfl rfl (tyX3_ok 1 (by decide)) rfl rfl fl_X3_20 dX3_init_29 rfl (by simp [kset, iK_X4, hK0, Nat.add_assoc]) ?_
  refine j_aload_n (q := 33) h dX3_init_32 rfl rfl ?_
  refine j_iconst (q := 34) (0) h dX3_init_33 ki_0 rfl ?_
  refine j_sBK (q := 37) (ci := 1) (k := 2) h tyX3 tyX3_ok nmX3 uin_X3 rfl rfl (by decide) rfl rfl (by decide +kernel) fl_X3_23 dX3_init_34 rfl (by simp [kset, iK_X4, hK0, Nat.add_assoc]) (by decide) ?_
  refine j_aload_n (q := 38) h dX3_init_37 rfl rfl ?_
  refine j_bipush (q := 40) (-6) h dX3_init_38 kb_m6 rfl ?_
  refine j_sIK (q := 43) (ci := 1) (k := 3) h tyX3 tyX3_ok nmX3 uin_X3 rfl rfl (by decide) rfl rfl (by decide +kernel) fl_X3_27 dX3_init_40 rfl (by simp [kset, iK_X4, hK0, Nat.add_assoc]) ?_
  refine j_aload_n (q := 44) h dX3_init_43 rfl rfl ?_
  refine j_bipush (q := 46) (-6) h dX3_init_44 kb_m6 rfl ?_
  refine j_sIK (q := 49) (ci := 1) (k := 4) h tyX3 tyX3_ok nmX3 uin_X3 rfl rfl (by decide) rfl rfl (by decide +kernel) fl_X3_31 dX3_init_46 rfl (by simp [kset, iK_X4, hK0, Nat.add_assoc]) ?_
  exact j_vret0 h dX3_init_49
theorem iK_X3_lt {K : KT} {a b : Nat} (hb : b ≤ a) : iK_X3 K a b = K b := by
  have hne : ∀ k : Nat, 0 < k → ¬ b = a + k := fun k hk => by omega
  have hle : ∀ k : Nat, b ≤ a + k := fun k => by omega
  simp [iK_X3, kset, iK_X4, hne, hle, Nat.add_assoc]
theorem iP_X3_lt {P : PT} {a b : Nat} (hb : b < a) : iP_X3 P a b = P b := by
  have hne : ∀ k : Nat, ¬ b = a + k := fun k => by omega
  have hna : ¬ b = a := by omega
  have hlt : ∀ k : Nat, b < a + k := fun k => by omega
  funext j
  simp [iP_X3, pset, prow, iP_X4, hne, hna, hlt, Nat.add_assoc]
theorem iV_X3_lt {V : VT} {a b : Nat} (hb : b < a) : iV_X3 V a b = V b := by
  have hne : ∀ k : Nat, ¬ b = a + k := fun k => by omega
  have hna : ¬ b = a := by omega
  have hlt : ∀ k : Nat, b < a + k := fun k => by omega
  funext j
  simp [iV_X3, vset, vrow, adV, iV_X4, hne, hna, hlt, Nat.add_assoc]
theorem add_new {K : KT} {P : PT} {V : VT} {r N : Nat} {x : Int32} (hR : RowK K P r N) (hN : 0 < N ∧ N < 100000000) (hV : V r 1 = 0) : f_X4_add K P r x V = some ((), adV V r x) := by
  obtain ⟨h1, h2, h3⟩ := hR
  have hp := nI_pos3 hN.1 hN.2
  have hz : ¬ (0 : Int32) < 0 := by decide
  have e : (0 : Int32).toNatClampNeg = 0 := by decide
  have h0 : (0 : Int32) ≤ 0 := by decide
  have hne : ¬ r = r + 1 := by omega
  simp [f_X4_add, gI, gR, aN, sA, sI, h1, h2, h3, hV, hp, hz, e, h0, hN.1, vset, adV, hne]

def iK_X5 (K : KT) (a : Nat) : KT := (iK_X1 (kset (iK_X1 (kset (iK_X1 (kset (iK_X1 (kset (iK_X1 (kset (iK_X4 (kset (iK_X4 (kset (iK_X1 (kset (kset K (a + 1) (.inr (2, 5))) (a + 2) (.inl 0)) (a + 2)) (a + 5) (.inl 2)) (a + 5) 5) (a + 7) (.inl 2)) (a + 7) 12) (a + 9) (.inl 0)) (a + 9)) (a + 12) (.inl 0)) (a + 12)) (a + 15) (.inl 0)) (a + 15)) (a + 18) (.inl 0)) (a + 18)) (a + 21) (.inl 0)) (a + 21))
def iP_X5 (P : PT) (a : Nat) : PT := (pset (iP_X1 (prow (pset (iP_X1 (prow (pset (iP_X1 (prow (pset (iP_X1 (prow (pset (iP_X1 (prow (pset (iP_X4 (prow (pset (iP_X4 (prow (pset (iP_X1 (prow (pset (prow P (a + 1) (fun _ => none)) a 0 (some (a + 1))) (a + 2) (fun _ => none)) (a + 2)) a 1 (some (a + 2))) (a + 5) (fun _ => none)) (a + 5)) a 2 (some (a + 5))) (a + 7) (fun _ => none)) (a + 7)) a 3 (some (a + 7))) (a + 9) (fun _ => none)) (a + 9)) (a + 1) 0 (some (a + 9))) (a + 12) (fun _ => none)) (a + 12)) (a + 1) 1 (some (a + 12))) (a + 15) (fun _ => none)) (a + 15)) (a + 1) 2 (some (a + 15))) (a + 18) (fun _ => none)) (a + 18)) (a + 1) 3 (some (a + 18))) (a + 21) (fun _ => none)) (a + 21)) (a + 1) 4 (some (a + 21)))
def iV_X5 (V : VT) (a : Nat) : VT := (adV (iV_X1 (vrow (iV_X1 (vrow (iV_X1 (vrow (iV_X1 (vrow (iV_X1 (vrow (vset (iV_X4 (vrow (iV_X4 (vrow (iV_X1 (vrow V (a + 2) (fun _ => 0)) (a + 2)) (a + 5) (fun _ => 0)) (a + 5)) (a + 7) (fun _ => 0)) (a + 7)) a 4 (0 : Int32)) (a + 9) (fun _ => 0)) (a + 9)) (a + 12) (fun _ => 0)) (a + 12)) (a + 15) (fun _ => 0)) (a + 15)) (a + 18) (fun _ => 0)) (a + 18)) (a + 21) (fun _ => 0)) (a + 21)) (a + 7) 120)
def rm_X5_init : Room := { frames := 3, cells := 23, slots := 106, locals := 53 }
set_option maxRecDepth 20000 in
theorem ct_X5_init (l : Launch) (D : va_G) (T : TT) {K : KT} {P : PT} {V : VT} {a sz : Nat} (hs : sz = a + 1) (hK0 : K a = some (.inl 3)) : CTs l D T sz yX5_init cX5_init 2 none rm_X5_init K P V [.ref a] none (iK_X5 K a) (iP_X5 P a) (iV_X5 V a) 23 (106) := by
  refine CT_of pn_X5 (cat_a cat_0) (Nat.le_of_ble_eq_true rfl) [some (.ref a), none] rfl (fun g hsz hini h => ?_)
  have hini := hini rfl
  rw [hs] at hsz
  refine j_aload_n (q := 1) h dX5_init_0 rfl rfl ?_
  refine j_objInit (q := 4) h ml_X5_3o im_obj cd_obj ⟨Nat.le_of_ble_eq_true rfl, Nat.le_of_ble_eq_true rfl⟩ dX5_init_1 rfl ?_
  refine j_aload_n (q := 5) h dX5_init_4 rfl rfl ?_
  refine j_iconst (q := 6) (5) h dX5_init_5 ki_5 rfl ?_
  refine j_newq (q := 9) (N := 5) (a + 1) h (by omega) (by decide +kernel) (by decide) cl_X5_9 ⟨Nat.le_of_ble_eq_true rfl, Nat.le_of_ble_eq_true rfl⟩ dX5_init_6 rfl ?_
  refine j_pF (q := 12) (ci := 3) (k := 0) h hini tyX5 tyX5_ok nmX5 uin_X5 rfl rfl (by decide) rfl rfl rfl (tyX5_ok 0 (by decide)) rfl rfl fl_X5_11 dX5_init_9 rfl (by simp [kset, iK_X4, iK_X1_lt, hK0, Nat.add_assoc]) ?_
  refine j_aload_n (q := 13) h dX5_init_12 rfl rfl ?_
  refine j_new (q := 16) (ci := 0) (a + 2) h (by omega) tyX1 tyX1_ok uin_X1 rfl rfl (by decide) cl_X5_9 ins_X1 ini_X1 ⟨Nat.le_of_ble_eq_true rfl, Nat.le_of_ble_eq_true rfl⟩ dX5_init_13 rfl ?_
  refine j_dup (q := 17) h dX5_init_16 rfl rfl ?_
  refine j_cI (q := 20) (As := []) h (ct_X1_init _ _ _ (by omega) (by simp [kset, iK_X4, iK_X1_lt, hK0, Nat.add_assoc])) ml_X5_17 im_X1_init ini_X1 cd_X1_init rfl (by decide +kernel) ⟨Nat.le_of_ble_eq_true rfl, Nat.le_of_ble_eq_true rfl⟩ ⟨rfl, rfl⟩ ⟨Nat.le_of_ble_eq_true rfl, Nat.le_of_ble_eq_true rfl⟩ (Nat.le_of_ble_eq_true rfl) dX5_init_17 rfl rfl ?_
  refine j_pF (q := 23) (ci := 3) (k := 1) h hini tyX5 tyX5_ok nmX5 uin_X5 rfl rfl (by decide) rfl rfl rfl (tyX5_ok 1 (by decide)) rfl rfl fl_X5_18 dX5_init_20 rfl (by simp [kset, iK_X4, iK_X1_lt, hK0, Nat.add_assoc]) ?_
  refine j_aload_n (q := 24) h dX5_init_23 rfl rfl ?_
  refine j_new (q := 27) (ci := 2) (a + 5) h (by omega) tyX4 tyX4_ok uin_X4 rfl rfl (by decide) cl_X5_22 ins_X4 ini_X4 ⟨Nat.le_of_ble_eq_true rfl, Nat.le_of_ble_eq_true rfl⟩ dX5_init_24 rfl ?_
  refine j_dup (q := 28) h dX5_init_27 rfl rfl ?_
  refine j_iconst (q := 29) (5) h dX5_init_28 ki_5 rfl ?_
  refine j_cI (q := 32) (As := [.int (nI 5)]) h (ct_X4_init (N := 5) _ _ _ (by omega) (by simp [kset, iK_X4, iK_X1_lt, hK0, Nat.add_assoc]) (by decide) (by decide)) ml_X5_24 im_X4_init ini_X4 cd_X4_init rfl (by decide +kernel) ⟨Nat.le_of_ble_eq_true rfl, Nat.le_of_ble_eq_true rfl⟩ ⟨rfl, rfl⟩ ⟨Nat.le_of_ble_eq_true rfl, Nat.le_of_ble_eq_true rfl⟩ (Nat.le_of_ble_eq_true rfl) dX5_init_29 rfl rfl ?_
  refine j_pF (q := 35) (ci := 3) (k := 2) h hini tyX5 tyX5_ok nmX5 uin_X5 rfl rfl (by decide) rfl rfl rfl (tyX5_ok 2 (by decide)) rfl rfl fl_X5_27 dX5_init_32 rfl (by simp [kset, iK_X4, iK_X1_lt, hK0, Nat.add_assoc]) ?_
  refine j_aload_n (q := 36) h dX5_init_35 rfl rfl ?_
  refine j_new (q := 39) (ci := 2) (a + 7) h (by omega) tyX4 tyX4_ok uin_X4 rfl rfl (by decide) cl_X5_22 ins_X4 ini_X4 ⟨Nat.le_of_ble_eq_true rfl, Nat.le_of_ble_eq_true rfl⟩ dX5_init_36 rfl ?_
  refine j_dup (q := 40) h dX5_init_39 rfl rfl ?_
  refine j_bipush (q := 42) (12) h dX5_init_40 kb_12 rfl ?_
  refine j_cI (q := 45) (As := [.int (nI 12)]) h (ct_X4_init (N := 12) _ _ _ (by omega) (by simp [kset, iK_X4, iK_X1_lt, hK0, Nat.add_assoc]) (by decide) (by decide)) ml_X5_24 im_X4_init ini_X4 cd_X4_init rfl (by decide +kernel) ⟨Nat.le_of_ble_eq_true rfl, Nat.le_of_ble_eq_true rfl⟩ ⟨rfl, rfl⟩ ⟨Nat.le_of_ble_eq_true rfl, Nat.le_of_ble_eq_true rfl⟩ (Nat.le_of_ble_eq_true rfl) dX5_init_42 rfl rfl ?_
  refine j_pF (q := 48) (ci := 3) (k := 3) h hini tyX5 tyX5_ok nmX5 uin_X5 rfl rfl (by decide) rfl rfl rfl (tyX5_ok 3 (by decide)) rfl rfl fl_X5_31 dX5_init_45 rfl (by simp [kset, iK_X4, iK_X1_lt, hK0, Nat.add_assoc]) ?_
  refine j_aload_n (q := 49) h dX5_init_48 rfl rfl ?_
  refine j_iconst (q := 50) (0) h dX5_init_49 ki_0 rfl ?_
  refine j_sBK (q := 53) (ci := 3) (k := 4) h tyX5 tyX5_ok nmX5 uin_X5 rfl rfl (by decide) rfl rfl (by decide +kernel) fl_X5_34 dX5_init_50 rfl (by simp [kset, iK_X4, iK_X1_lt, hK0, Nat.add_assoc]) (by decide) ?_
  refine j_iconst (q := 54) (0) h dX5_init_53 ki_0 rfl ?_
  refine j_istore_n (q := 55) [_, _] h dX5_init_54 rfl (by decide) rfl rfl ?_
  refine j_iload_n (q := 56) h dX5_init_55 rfl rfl ?_
  refine j_aload_n (q := 57) h dX5_init_56 rfl rfl ?_
  refine j_gRK (q := 60) (ci := 3) (k := 0) (b := a + 1) h uin_X5 rfl rfl (by decide) rfl fl_X5_11 dX5_init_57 rfl (by simp [kset, iK_X4, iK_X1_lt, hK0, Nat.add_assoc]) (by simp [pset, prow, iP_X4, iP_X1_lt, Nat.add_assoc]) ?_
  refine j_alenK (q := 61) (t := 2) (N := 5) (v := 5) h dX5_init_60 rfl (by simp [kset, iK_X4, iK_X1_lt, hK0, Nat.add_assoc]) (by decide) (by decide +kernel) ?_
  refine j_geF (q := 64) 83 h dX5_init_61 (by decide) rfl (by decide) ?_
  refine j_aload_n (q := 65) h dX5_init_64 rfl rfl ?_
  refine j_gRK (q := 68) (ci := 3) (k := 0) (b := a + 1) h uin_X5 rfl rfl (by decide) rfl fl_X5_11 dX5_init_65 rfl (by simp [kset, iK_X4, iK_X1_lt, hK0, Nat.add_assoc]) (by simp [pset, prow, iP_X4, iP_X1_lt, Nat.add_assoc]) ?_
  refine j_iload_n (q := 69) h dX5_init_68 rfl rfl ?_
  refine j_new (q := 72) (ci := 0) (a + 9) h (by omega) tyX1 tyX1_ok uin_X1 rfl rfl (by decide) cl_X5_9 ins_X1 ini_X1 ⟨Nat.le_of_ble_eq_true rfl, Nat.le_of_ble_eq_true rfl⟩ dX5_init_69 rfl ?_
  refine j_dup (q := 73) h dX5_init_72 rfl rfl ?_
  refine j_cI (q := 76) (As := []) h (ct_X1_init _ _ _ (by omega) (by simp [kset, iK_X4, iK_X1_lt, hK0, Nat.add_assoc])) ml_X5_17 im_X1_init ini_X1 cd_X1_init rfl (by decide +kernel) ⟨Nat.le_of_ble_eq_true rfl, Nat.le_of_ble_eq_true rfl⟩ ⟨rfl, rfl⟩ ⟨Nat.le_of_ble_eq_true rfl, Nat.le_of_ble_eq_true rfl⟩ (Nat.le_of_ble_eq_true rfl) dX5_init_73 rfl rfl ?_
  refine j_aast (q := 77) (N := 5) h (by simp [kset, iK_X4, iK_X1_lt, hK0, Nat.add_assoc]) (by decide) (by decide) (by simp [kset, iK_X4, iK_X1_lt, hK0, Nat.add_assoc]) dX5_init_76 rfl ?_
  refine j_iinc (q := 80) (1) [_, _] h dX5_init_77 rfl (by decide) rfl kq_1 rfl rfl ?_
  refine j_goto 55 h dX5_init_80 (by decide) ?_
  refine j_iload_n (q := 56) h dX5_init_55 rfl rfl ?_
  refine j_aload_n (q := 57) h dX5_init_56 rfl rfl ?_
  refine j_gRK (q := 60) (ci := 3) (k := 0) (b := a + 1) h uin_X5 rfl rfl (by decide) rfl fl_X5_11 dX5_init_57 rfl (by simp [kset, iK_X4, iK_X1_lt, hK0, Nat.add_assoc]) (by simp [pset, prow, iP_X4, iP_X1_lt, Nat.add_assoc]) ?_
  refine j_alenK (q := 61) (t := 2) (N := 5) (v := 5) h dX5_init_60 rfl (by simp [kset, iK_X4, iK_X1_lt, hK0, Nat.add_assoc]) (by decide) (by decide +kernel) ?_
  refine j_geF (q := 64) 83 h dX5_init_61 (by decide) rfl (by decide) ?_
  refine j_aload_n (q := 65) h dX5_init_64 rfl rfl ?_
  refine j_gRK (q := 68) (ci := 3) (k := 0) (b := a + 1) h uin_X5 rfl rfl (by decide) rfl fl_X5_11 dX5_init_65 rfl (by simp [kset, iK_X4, iK_X1_lt, hK0, Nat.add_assoc]) (by simp [pset, prow, iP_X4, iP_X1_lt, Nat.add_assoc]) ?_
  refine j_iload_n (q := 69) h dX5_init_68 rfl rfl ?_
  refine j_new (q := 72) (ci := 0) (a + 12) h (by omega) tyX1 tyX1_ok uin_X1 rfl rfl (by decide) cl_X5_9 ins_X1 ini_X1 ⟨Nat.le_of_ble_eq_true rfl, Nat.le_of_ble_eq_true rfl⟩ dX5_init_69 rfl ?_
  refine j_dup (q := 73) h dX5_init_72 rfl rfl ?_
  refine j_cI (q := 76) (As := []) h (ct_X1_init _ _ _ (by omega) (by simp [kset, iK_X4, iK_X1_lt, hK0, Nat.add_assoc])) ml_X5_17 im_X1_init ini_X1 cd_X1_init rfl (by decide +kernel) ⟨Nat.le_of_ble_eq_true rfl, Nat.le_of_ble_eq_true rfl⟩ ⟨rfl, rfl⟩ ⟨Nat.le_of_ble_eq_true rfl, Nat.le_of_ble_eq_true rfl⟩ (Nat.le_of_ble_eq_true rfl) dX5_init_73 rfl rfl ?_
  refine j_aast (q := 77) (N := 5) h (by simp [kset, iK_X4, iK_X1_lt, hK0, Nat.add_assoc]) (by decide) (by decide) (by simp [kset, iK_X4, iK_X1_lt, hK0, Nat.add_assoc]) dX5_init_76 rfl ?_
  refine j_iinc (q := 80) (2) [_, _] h dX5_init_77 rfl (by decide) rfl kq_2 rfl rfl ?_
  refine j_goto 55 h dX5_init_80 (by decide) ?_
  refine j_iload_n (q := 56) h dX5_init_55 rfl rfl ?_
  refine j_aload_n (q := 57) h dX5_init_56 rfl rfl ?_
  refine j_gRK (q := 60) (ci := 3) (k := 0) (b := a + 1) h uin_X5 rfl rfl (by decide) rfl fl_X5_11 dX5_init_57 rfl (by simp [kset, iK_X4, iK_X1_lt, hK0, Nat.add_assoc]) (by simp [pset, prow, iP_X4, iP_X1_lt, Nat.add_assoc]) ?_
  refine j_alenK (q := 61) (t := 2) (N := 5) (v := 5) h dX5_init_60 rfl (by simp [kset, iK_X4, iK_X1_lt, hK0, Nat.add_assoc]) (by decide) (by decide +kernel) ?_
  refine j_geF (q := 64) 83 h dX5_init_61 (by decide) rfl (by decide) ?_
  refine j_aload_n (q := 65) h dX5_init_64 rfl rfl ?_
  refine j_gRK (q := 68) (ci := 3) (k := 0) (b := a + 1) h uin_X5 rfl rfl (by decide) rfl fl_X5_11 dX5_init_65 rfl (by simp [kset, iK_X4, iK_X1_lt, hK0, Nat.add_assoc]) (by simp [pset, prow, iP_X4, iP_X1_lt, Nat.add_assoc]) ?_
  refine j_iload_n (q := 69) h dX5_init_68 rfl rfl ?_
  refine j_new (q := 72) (ci := 0) (a + 15) h (by omega) tyX1 tyX1_ok uin_X1 rfl rfl (by decide) cl_X5_9 ins_X1 ini_X1 ⟨Nat.le_of_ble_eq_true rfl, Nat.le_of_ble_eq_true rfl⟩ dX5_init_69 rfl ?_
  refine j_dup (q := 73) h dX5_init_72 rfl rfl ?_
  refine j_cI (q := 76) (As := []) h (ct_X1_init _ _ _ (by omega) (by simp [kset, iK_X4, iK_X1_lt, hK0, Nat.add_assoc])) ml_X5_17 im_X1_init ini_X1 cd_X1_init rfl (by decide +kernel) ⟨Nat.le_of_ble_eq_true rfl, Nat.le_of_ble_eq_true rfl⟩ ⟨rfl, rfl⟩ ⟨Nat.le_of_ble_eq_true rfl, Nat.le_of_ble_eq_true rfl⟩ (Nat.le_of_ble_eq_true rfl) dX5_init_73 rfl rfl ?_
  refine j_aast (q := 77) (N := 5) h (by simp [kset, iK_X4, iK_X1_lt, hK0, Nat.add_assoc]) (by decide) (by decide) (by simp [kset, iK_X4, iK_X1_lt, hK0, Nat.add_assoc]) dX5_init_76 rfl ?_
  refine j_iinc (q := 80) (3) [_, _] h dX5_init_77 rfl (by decide) rfl kq_3 rfl rfl ?_
  refine j_goto 55 h dX5_init_80 (by decide) ?_
  refine j_iload_n (q := 56) h dX5_init_55 rfl rfl ?_
  refine j_aload_n (q := 57) h dX5_init_56 rfl rfl ?_
  refine j_gRK (q := 60) (ci := 3) (k := 0) (b := a + 1) h uin_X5 rfl rfl (by decide) rfl fl_X5_11 dX5_init_57 rfl (by simp [kset, iK_X4, iK_X1_lt, hK0, Nat.add_assoc]) (by simp [pset, prow, iP_X4, iP_X1_lt, Nat.add_assoc]) ?_
  refine j_alenK (q := 61) (t := 2) (N := 5) (v := 5) h dX5_init_60 rfl (by simp [kset, iK_X4, iK_X1_lt, hK0, Nat.add_assoc]) (by decide) (by decide +kernel) ?_
  refine j_geF (q := 64) 83 h dX5_init_61 (by decide) rfl (by decide) ?_
  refine j_aload_n (q := 65) h dX5_init_64 rfl rfl ?_
  refine j_gRK (q := 68) (ci := 3) (k := 0) (b := a + 1) h uin_X5 rfl rfl (by decide) rfl fl_X5_11 dX5_init_65 rfl (by simp [kset, iK_X4, iK_X1_lt, hK0, Nat.add_assoc]) (by simp [pset, prow, iP_X4, iP_X1_lt, Nat.add_assoc]) ?_
  refine j_iload_n (q := 69) h dX5_init_68 rfl rfl ?_
  refine j_new (q := 72) (ci := 0) (a + 18) h (by omega) tyX1 tyX1_ok uin_X1 rfl rfl (by decide) cl_X5_9 ins_X1 ini_X1 ⟨Nat.le_of_ble_eq_true rfl, Nat.le_of_ble_eq_true rfl⟩ dX5_init_69 rfl ?_
  refine j_dup (q := 73) h dX5_init_72 rfl rfl ?_
  refine j_cI (q := 76) (As := []) h (ct_X1_init _ _ _ (by omega) (by simp [kset, iK_X4, iK_X1_lt, hK0, Nat.add_assoc])) ml_X5_17 im_X1_init ini_X1 cd_X1_init rfl (by decide +kernel) ⟨Nat.le_of_ble_eq_true rfl, Nat.le_of_ble_eq_true rfl⟩ ⟨rfl, rfl⟩ ⟨Nat.le_of_ble_eq_true rfl, Nat.le_of_ble_eq_true rfl⟩ (Nat.le_of_ble_eq_true rfl) dX5_init_73 rfl rfl ?_
  refine j_aast (q := 77) (N := 5) h (by simp [kset, iK_X4, iK_X1_lt, hK0, Nat.add_assoc]) (by decide) (by decide) (by simp [kset, iK_X4, iK_X1_lt, hK0, Nat.add_assoc]) dX5_init_76 rfl ?_
  refine j_iinc (q := 80) (4) [_, _] h dX5_init_77 rfl (by decide) rfl kq_4 rfl rfl ?_
  refine j_goto 55 h dX5_init_80 (by decide) ?_
  refine j_iload_n (q := 56) h dX5_init_55 rfl rfl ?_
  refine j_aload_n (q := 57) h dX5_init_56 rfl rfl ?_
  refine j_gRK (q := 60) (ci := 3) (k := 0) (b := a + 1) h uin_X5 rfl rfl (by decide) rfl fl_X5_11 dX5_init_57 rfl (by simp [kset, iK_X4, iK_X1_lt, hK0, Nat.add_assoc]) (by simp [pset, prow, iP_X4, iP_X1_lt, Nat.add_assoc]) ?_
  refine j_alenK (q := 61) (t := 2) (N := 5) (v := 5) h dX5_init_60 rfl (by simp [kset, iK_X4, iK_X1_lt, hK0, Nat.add_assoc]) (by decide) (by decide +kernel) ?_
  refine j_geF (q := 64) 83 h dX5_init_61 (by decide) rfl (by decide) ?_
  refine j_aload_n (q := 65) h dX5_init_64 rfl rfl ?_
  refine j_gRK (q := 68) (ci := 3) (k := 0) (b := a + 1) h uin_X5 rfl rfl (by decide) rfl fl_X5_11 dX5_init_65 rfl (by simp [kset, iK_X4, iK_X1_lt, hK0, Nat.add_assoc]) (by simp [pset, prow, iP_X4, iP_X1_lt, Nat.add_assoc]) ?_
  refine j_iload_n (q := 69) h dX5_init_68 rfl rfl ?_
  refine j_new (q := 72) (ci := 0) (a + 21) h (by omega) tyX1 tyX1_ok uin_X1 rfl rfl (by decide) cl_X5_9 ins_X1 ini_X1 ⟨Nat.le_of_ble_eq_true rfl, Nat.le_of_ble_eq_true rfl⟩ dX5_init_69 rfl ?_
  refine j_dup (q := 73) h dX5_init_72 rfl rfl ?_
  refine j_cI (q := 76) (As := []) h (ct_X1_init _ _ _ (by omega) (by simp [kset, iK_X4, iK_X1_lt, hK0, Nat.add_assoc])) ml_X5_17 im_X1_init ini_X1 cd_X1_init rfl (by decide +kernel) ⟨Nat.le_of_ble_eq_true rfl, Nat.le_of_ble_eq_true rfl⟩ ⟨rfl, rfl⟩ ⟨Nat.le_of_ble_eq_true rfl, Nat.le_of_ble_eq_true rfl⟩ (Nat.le_of_ble_eq_true rfl) dX5_init_73 rfl rfl ?_
  refine j_aast (q := 77) (N := 5) h (by simp [kset, iK_X4, iK_X1_lt, hK0, Nat.add_assoc]) (by decide) (by decide) (by simp [kset, iK_X4, iK_X1_lt, hK0, Nat.add_assoc]) dX5_init_76 rfl ?_
  refine j_iinc (q := 80) (5) [_, _] h dX5_init_77 rfl (by decide) rfl kq_5 rfl rfl ?_
  refine j_goto 55 h dX5_init_80 (by decide) ?_
  refine j_iload_n (q := 56) h dX5_init_55 rfl rfl ?_
  refine j_aload_n (q := 57) h dX5_init_56 rfl rfl ?_
  refine j_gRK (q := 60) (ci := 3) (k := 0) (b := a + 1) h uin_X5 rfl rfl (by decide) rfl fl_X5_11 dX5_init_57 rfl (by simp [kset, iK_X4, iK_X1_lt, hK0, Nat.add_assoc]) (by simp [pset, prow, iP_X4, iP_X1_lt, Nat.add_assoc]) ?_
  refine j_alenK (q := 61) (t := 2) (N := 5) (v := 5) h dX5_init_60 rfl (by simp [kset, iK_X4, iK_X1_lt, hK0, Nat.add_assoc]) (by decide) (by decide +kernel) ?_
  refine j_geT 83 h dX5_init_61 (by decide) (by decide) ?_
  refine j_aload_n (q := 84) h dX5_init_83 rfl rfl ?_
  refine j_gRK (q := 87) (ci := 3) (k := 3) (b := a + 7) h uin_X5 rfl rfl (by decide) rfl fl_X5_31 dX5_init_84 rfl (by simp [kset, iK_X4, iK_X1_lt, hK0, Nat.add_assoc]) (by simp [pset, prow, iP_X4, iP_X1_lt, Nat.add_assoc]) ?_
  refine j_bipush (q := 89) (120) h dX5_init_87 kb_120 rfl ?_
  refine j_cVvK (q := 92) (As := [.int _]) h rfl (by simp [kset, iK_X4, iK_X1_lt, hK0, Nat.add_assoc]) (ct_X4_add _ _ _ (add_new (N := 12) ⟨(by simp [kset, iK_X4, iK_X1_lt, hK0, Nat.add_assoc]), (by simp [pset, prow, iP_X4, iP_X1_lt, Nat.add_assoc]), (by simp [kset, iK_X4, iK_X1_lt, hK0, Nat.add_assoc])⟩ (by decide) (by simp [vset, vrow, iV_X4, iV_X1_lt, Nat.add_assoc]))) ml_X5_38 vw_X4_add ⟨⟨Nat.le_of_ble_eq_true rfl, Nat.le_of_ble_eq_true rfl⟩, rfl, rfl⟩ ⟨Nat.le_of_ble_eq_true rfl, Nat.le_of_ble_eq_true rfl⟩ (Nat.le_of_ble_eq_true rfl) dX5_init_89 rfl ?_
  exact j_vret0 h dX5_init_92
theorem iK_X5_lt {K : KT} {a b : Nat} (hb : b ≤ a) : iK_X5 K a b = K b := by
  have hne : ∀ k : Nat, 0 < k → ¬ b = a + k := fun k hk => by omega
  have hle : ∀ k : Nat, b ≤ a + k := fun k => by omega
  simp [iK_X5, kset, iK_X4, iK_X1_lt, hne, hle, Nat.add_assoc]
theorem iP_X5_lt {P : PT} {a b : Nat} (hb : b < a) : iP_X5 P a b = P b := by
  have hne : ∀ k : Nat, ¬ b = a + k := fun k => by omega
  have hna : ¬ b = a := by omega
  have hlt : ∀ k : Nat, b < a + k := fun k => by omega
  funext j
  simp [iP_X5, pset, prow, iP_X4, iP_X1_lt, hne, hna, hlt, Nat.add_assoc]
theorem iV_X5_lt {V : VT} {a b : Nat} (hb : b < a) : iV_X5 V a b = V b := by
  have hne : ∀ k : Nat, ¬ b = a + k := fun k => by omega
  have hna : ¬ b = a := by omega
  have hlt : ∀ k : Nat, b < a + k := fun k => by omega
  funext j
  simp [iV_X5, vset, vrow, adV, iV_X4, iV_X1_lt, hne, hna, hlt, Nat.add_assoc]
def iK_X6 (K : KT) (a : Nat) : KT := (iK_X4 (kset (iK_X4 (kset (iK_X4 (kset (iK_X4 (kset (iK_X3 (kset (iK_X5 (kset (iK_X5 (kset (iK_X5 (kset (iK_X4 (kset K (a + 1) (.inl 2)) (a + 1) 60) (a + 3) (.inl 3)) (a + 3)) (a + 27) (.inl 3)) (a + 27)) (a + 51) (.inl 3)) (a + 51)) (a + 75) (.inl 1)) (a + 75)) (a + 80) (.inl 2)) (a + 80) 12) (a + 82) (.inl 2)) (a + 82) 6) (a + 84) (.inl 2)) (a + 84) 5) (a + 86) (.inl 2)) (a + 86) 5)
def iP_X6 (P : PT) (a : Nat) : PT := (pset (iP_X4 (prow (pset (iP_X4 (prow (pset (iP_X4 (prow (pset (iP_X4 (prow (pset (iP_X3 (prow (pset (iP_X5 (prow (pset (iP_X5 (prow (pset (iP_X5 (prow (pset (iP_X4 (prow P (a + 1) (fun _ => none)) (a + 1)) a 0 (some (a + 1))) (a + 3) (fun _ => none)) (a + 3)) a 1 (some (a + 3))) (a + 27) (fun _ => none)) (a + 27)) a 2 (some (a + 27))) (a + 51) (fun _ => none)) (a + 51)) a 3 (some (a + 51))) (a + 75) (fun _ => none)) (a + 75)) a 4 (some (a + 75))) (a + 80) (fun _ => none)) (a + 80)) a 5 (some (a + 80))) (a + 82) (fun _ => none)) (a + 82)) a 6 (some (a + 82))) (a + 84) (fun _ => none)) (a + 84)) a 7 (some (a + 84))) (a + 86) (fun _ => none)) (a + 86)) a 8 (some (a + 86)))
def iV_X6 (V : VT) (a : Nat) : VT := (iV_X4 (vrow (iV_X4 (vrow (iV_X4 (vrow (iV_X4 (vrow (iV_X3 (vrow (iV_X5 (vrow (iV_X5 (vrow (iV_X5 (vrow (iV_X4 (vrow V (a + 1) (fun _ => 0)) (a + 1)) (a + 3) (fun _ => 0)) (a + 3)) (a + 27) (fun _ => 0)) (a + 27)) (a + 51) (fun _ => 0)) (a + 51)) (a + 75) (fun _ => 0)) (a + 75)) (a + 80) (fun _ => 0)) (a + 80)) (a + 82) (fun _ => 0)) (a + 82)) (a + 84) (fun _ => 0)) (a + 84)) (a + 86) (fun _ => 0)) (a + 86))
def rm_X6_init : Room := { frames := 4, cells := 87, slots := 1247, locals := 74 }
set_option maxRecDepth 20000 in
theorem ct_X6_init (l : Launch) (D : va_G) (T : TT) {K : KT} {P : PT} {V : VT} {a sz : Nat} (hs : sz = a + 1) (hK0 : K a = some (.inl 4)) : CTs l D T sz yX6_init cX6_init 1 none rm_X6_init K P V [.ref a] none (iK_X6 K a) (iP_X6 P a) (iV_X6 V a) 87 (1247) := by
  refine CT_of pn_X6 (cat_a cat_0) (Nat.le_of_ble_eq_true rfl) [some (.ref a)] rfl (fun g hsz hini h => ?_)
  have hini := hini rfl
  rw [hs] at hsz
  refine j_aload_n (q := 1) h dX6_init_0 rfl rfl ?_
  refine j_objInit (q := 4) h ml_X6_1o im_obj cd_obj ⟨Nat.le_of_ble_eq_true rfl, Nat.le_of_ble_eq_true rfl⟩ dX6_init_1 rfl ?_
  refine j_aload_n (q := 5) h dX6_init_4 rfl rfl ?_
  refine j_new (q := 8) (ci := 2) (a + 1) h (by omega) tyX4 tyX4_ok uin_X4 rfl rfl (by decide) cl_X6_7 ins_X4 ini_X4 ⟨Nat.le_of_ble_eq_true rfl, Nat.le_of_ble_eq_true rfl⟩ dX6_init_5 rfl ?_
  refine j_dup (q := 9) h dX6_init_8 rfl rfl ?_
  refine j_bipush (q := 11) (60) h dX6_init_9 kb_60 rfl ?_
  refine j_cI (q := 14) (As := [.int (nI 60)]) h (ct_X4_init (N := 60) _ _ _ (by omega) (by simp [kset, iK_X4, iK_X5_lt, iK_X3_lt, hK0, Nat.add_assoc]) (by decide) (by decide)) ml_X6_11 im_X4_init ini_X4 cd_X4_init rfl (by decide +kernel) ⟨Nat.le_of_ble_eq_true rfl, Nat.le_of_ble_eq_true rfl⟩ ⟨rfl, rfl⟩ ⟨Nat.le_of_ble_eq_true rfl, Nat.le_of_ble_eq_true rfl⟩ (Nat.le_of_ble_eq_true rfl) dX6_init_11 rfl rfl ?_
  refine j_pF (q := 17) (ci := 4) (k := 0) h hini tyX6 tyX6_ok nmX6 uin_X6 rfl rfl (by decide) rfl rfl rfl (tyX6_ok 0 (by decide)) rfl rfl fl_X6_14 dX6_init_14 rfl (by simp [kset, iK_X4, iK_X5_lt, iK_X3_lt, hK0, Nat.add_assoc]) ?_
  refine j_aload_n (q := 18) h dX6_init_17 rfl rfl ?_
  refine j_new (q := 21) (ci := 3) (a + 3) h (by omega) tyX5 tyX5_ok uin_X5 rfl rfl (by decide) cl_X6_18 ins_X5 ini_X5 ⟨Nat.le_of_ble_eq_true rfl, Nat.le_of_ble_eq_true rfl⟩ dX6_init_18 rfl ?_
  refine j_dup (q := 22) h dX6_init_21 rfl rfl ?_
  refine j_cI (q := 25) (As := []) h (ct_X5_init _ _ _ (by omega) (by simp [kset, iK_X4, iK_X5_lt, iK_X3_lt, hK0, Nat.add_assoc])) ml_X6_20 im_X5_init ini_X5 cd_X5_init rfl (by decide +kernel) ⟨Nat.le_of_ble_eq_true rfl, Nat.le_of_ble_eq_true rfl⟩ ⟨rfl, rfl⟩ ⟨Nat.le_of_ble_eq_true rfl, Nat.le_of_ble_eq_true rfl⟩ (Nat.le_of_ble_eq_true rfl) dX6_init_22 rfl rfl ?_
  refine j_pF (q := 28) (ci := 4) (k := 1) h hini tyX6 tyX6_ok nmX6 uin_X6 rfl rfl (by decide) rfl rfl rfl (tyX6_ok 1 (by decide)) rfl rfl fl_X6_21 dX6_init_25 rfl (by simp [kset, iK_X4, iK_X5_lt, iK_X3_lt, hK0, Nat.add_assoc]) ?_
  refine j_aload_n (q := 29) h dX6_init_28 rfl rfl ?_
  refine j_new (q := 32) (ci := 3) (a + 27) h (by omega) tyX5 tyX5_ok uin_X5 rfl rfl (by decide) cl_X6_18 ins_X5 ini_X5 ⟨Nat.le_of_ble_eq_true rfl, Nat.le_of_ble_eq_true rfl⟩ dX6_init_29 rfl ?_
  refine j_dup (q := 33) h dX6_init_32 rfl rfl ?_
  refine j_cI (q := 36) (As := []) h (ct_X5_init _ _ _ (by omega) (by simp [kset, iK_X4, iK_X5_lt, iK_X3_lt, hK0, Nat.add_assoc])) ml_X6_20 im_X5_init ini_X5 cd_X5_init rfl (by decide +kernel) ⟨Nat.le_of_ble_eq_true rfl, Nat.le_of_ble_eq_true rfl⟩ ⟨rfl, rfl⟩ ⟨Nat.le_of_ble_eq_true rfl, Nat.le_of_ble_eq_true rfl⟩ (Nat.le_of_ble_eq_true rfl) dX6_init_33 rfl rfl ?_
  refine j_pF (q := 39) (ci := 4) (k := 2) h hini tyX6 tyX6_ok nmX6 uin_X6 rfl rfl (by decide) rfl rfl rfl (tyX6_ok 2 (by decide)) rfl rfl fl_X6_25 dX6_init_36 rfl (by simp [kset, iK_X4, iK_X5_lt, iK_X3_lt, hK0, Nat.add_assoc]) ?_
  refine j_aload_n (q := 40) h dX6_init_39 rfl rfl ?_
  refine j_new (q := 43) (ci := 3) (a + 51) h (by omega) tyX5 tyX5_ok uin_X5 rfl rfl (by decide) cl_X6_18 ins_X5 ini_X5 ⟨Nat.le_of_ble_eq_true rfl, Nat.le_of_ble_eq_true rfl⟩ dX6_init_40 rfl ?_
  refine j_dup (q := 44) h dX6_init_43 rfl rfl ?_
  refine j_cI (q := 47) (As := []) h (ct_X5_init _ _ _ (by omega) (by simp [kset, iK_X4, iK_X5_lt, iK_X3_lt, hK0, Nat.add_assoc])) ml_X6_20 im_X5_init ini_X5 cd_X5_init rfl (by decide +kernel) ⟨Nat.le_of_ble_eq_true rfl, Nat.le_of_ble_eq_true rfl⟩ ⟨rfl, rfl⟩ ⟨Nat.le_of_ble_eq_true rfl, Nat.le_of_ble_eq_true rfl⟩ (Nat.le_of_ble_eq_true rfl) dX6_init_44 rfl rfl ?_
  refine j_pF (q := 50) (ci := 4) (k := 3) h hini tyX6 tyX6_ok nmX6 uin_X6 rfl rfl (by decide) rfl rfl rfl (tyX6_ok 3 (by decide)) rfl rfl fl_X6_28 dX6_init_47 rfl (by simp [kset, iK_X4, iK_X5_lt, iK_X3_lt, hK0, Nat.add_assoc]) ?_
  refine j_aload_n (q := 51) h dX6_init_50 rfl rfl ?_
  refine j_new (q := 54) (ci := 1) (a + 75) h (by omega) tyX3 tyX3_ok uin_X3 rfl rfl (by decide) cl_X6_31 ins_X3 ini_X3 ⟨Nat.le_of_ble_eq_true rfl, Nat.le_of_ble_eq_true rfl⟩ dX6_init_51 rfl ?_
  refine j_dup (q := 55) h dX6_init_54 rfl rfl ?_
  refine j_cI (q := 58) (As := []) h (ct_X3_init _ _ _ (by omega) (by simp [kset, iK_X4, iK_X5_lt, iK_X3_lt, hK0, Nat.add_assoc])) ml_X6_33 im_X3_init ini_X3 cd_X3_init rfl (by decide +kernel) ⟨Nat.le_of_ble_eq_true rfl, Nat.le_of_ble_eq_true rfl⟩ ⟨rfl, rfl⟩ ⟨Nat.le_of_ble_eq_true rfl, Nat.le_of_ble_eq_true rfl⟩ (Nat.le_of_ble_eq_true rfl) dX6_init_55 rfl rfl ?_
  refine j_pF (q := 61) (ci := 4) (k := 4) h hini tyX6 tyX6_ok nmX6 uin_X6 rfl rfl (by decide) rfl rfl rfl (tyX6_ok 4 (by decide)) rfl rfl fl_X6_34 dX6_init_58 rfl (by simp [kset, iK_X4, iK_X5_lt, iK_X3_lt, hK0, Nat.add_assoc]) ?_
  refine j_aload_n (q := 62) h dX6_init_61 rfl rfl ?_
  refine j_new (q := 65) (ci := 2) (a + 80) h (by omega) tyX4 tyX4_ok uin_X4 rfl rfl (by decide) cl_X6_7 ins_X4 ini_X4 ⟨Nat.le_of_ble_eq_true rfl, Nat.le_of_ble_eq_true rfl⟩ dX6_init_62 rfl ?_
  refine j_dup (q := 66) h dX6_init_65 rfl rfl ?_
  refine j_bipush (q := 68) (12) h dX6_init_66 kb_12 rfl ?_
  refine j_cI (q := 71) (As := [.int (nI 12)]) h (ct_X4_init (N := 12) _ _ _ (by omega) (by simp [kset, iK_X4, iK_X5_lt, iK_X3_lt, hK0, Nat.add_assoc]) (by decide) (by decide)) ml_X6_11 im_X4_init ini_X4 cd_X4_init rfl (by decide +kernel) ⟨Nat.le_of_ble_eq_true rfl, Nat.le_of_ble_eq_true rfl⟩ ⟨rfl, rfl⟩ ⟨Nat.le_of_ble_eq_true rfl, Nat.le_of_ble_eq_true rfl⟩ (Nat.le_of_ble_eq_true rfl) dX6_init_68 rfl rfl ?_
  refine j_pF (q := 74) (ci := 4) (k := 5) h hini tyX6 tyX6_ok nmX6 uin_X6 rfl rfl (by decide) rfl rfl rfl (tyX6_ok 5 (by decide)) rfl rfl fl_X6_38 dX6_init_71 rfl (by simp [kset, iK_X4, iK_X5_lt, iK_X3_lt, hK0, Nat.add_assoc]) ?_
  refine j_aload_n (q := 75) h dX6_init_74 rfl rfl ?_
  refine j_new (q := 78) (ci := 2) (a + 82) h (by omega) tyX4 tyX4_ok uin_X4 rfl rfl (by decide) cl_X6_7 ins_X4 ini_X4 ⟨Nat.le_of_ble_eq_true rfl, Nat.le_of_ble_eq_true rfl⟩ dX6_init_75 rfl ?_
  refine j_dup (q := 79) h dX6_init_78 rfl rfl ?_
  refine j_bipush (q := 81) (6) h dX6_init_79 kb_6 rfl ?_
  refine j_cI (q := 84) (As := [.int (nI 6)]) h (ct_X4_init (N := 6) _ _ _ (by omega) (by simp [kset, iK_X4, iK_X5_lt, iK_X3_lt, hK0, Nat.add_assoc]) (by decide) (by decide)) ml_X6_11 im_X4_init ini_X4 cd_X4_init rfl (by decide +kernel) ⟨Nat.le_of_ble_eq_true rfl, Nat.le_of_ble_eq_true rfl⟩ ⟨rfl, rfl⟩ ⟨Nat.le_of_ble_eq_true rfl, Nat.le_of_ble_eq_true rfl⟩ (Nat.le_of_ble_eq_true rfl) dX6_init_81 rfl rfl ?_
  refine j_pF (q := 87) (ci := 4) (k := 6) h hini tyX6 tyX6_ok nmX6 uin_X6 rfl rfl (by decide) rfl rfl rfl (tyX6_ok 6 (by decide)) rfl rfl fl_X6_41 dX6_init_84 rfl (by simp [kset, iK_X4, iK_X5_lt, iK_X3_lt, hK0, Nat.add_assoc]) ?_
  refine j_aload_n (q := 88) h dX6_init_87 rfl rfl ?_
  refine j_new (q := 91) (ci := 2) (a + 84) h (by omega) tyX4 tyX4_ok uin_X4 rfl rfl (by decide) cl_X6_7 ins_X4 ini_X4 ⟨Nat.le_of_ble_eq_true rfl, Nat.le_of_ble_eq_true rfl⟩ dX6_init_88 rfl ?_
  refine j_dup (q := 92) h dX6_init_91 rfl rfl ?_
  refine j_iconst (q := 93) (5) h dX6_init_92 ki_5 rfl ?_
  refine j_cI (q := 96) (As := [.int (nI 5)]) h (ct_X4_init (N := 5) _ _ _ (by omega) (by simp [kset, iK_X4, iK_X5_lt, iK_X3_lt, hK0, Nat.add_assoc]) (by decide) (by decide)) ml_X6_11 im_X4_init ini_X4 cd_X4_init rfl (by decide +kernel) ⟨Nat.le_of_ble_eq_true rfl, Nat.le_of_ble_eq_true rfl⟩ ⟨rfl, rfl⟩ ⟨Nat.le_of_ble_eq_true rfl, Nat.le_of_ble_eq_true rfl⟩ (Nat.le_of_ble_eq_true rfl) dX6_init_93 rfl rfl ?_
  refine j_pF (q := 99) (ci := 4) (k := 7) h hini tyX6 tyX6_ok nmX6 uin_X6 rfl rfl (by decide) rfl rfl rfl (tyX6_ok 7 (by decide)) rfl rfl fl_X6_44 dX6_init_96 rfl (by simp [kset, iK_X4, iK_X5_lt, iK_X3_lt, hK0, Nat.add_assoc]) ?_
  refine j_aload_n (q := 100) h dX6_init_99 rfl rfl ?_
  refine j_new (q := 103) (ci := 2) (a + 86) h (by omega) tyX4 tyX4_ok uin_X4 rfl rfl (by decide) cl_X6_7 ins_X4 ini_X4 ⟨Nat.le_of_ble_eq_true rfl, Nat.le_of_ble_eq_true rfl⟩ dX6_init_100 rfl ?_
  refine j_dup (q := 104) h dX6_init_103 rfl rfl ?_
  refine j_iconst (q := 105) (5) h dX6_init_104 ki_5 rfl ?_
  refine j_cI (q := 108) (As := [.int (nI 5)]) h (ct_X4_init (N := 5) _ _ _ (by omega) (by simp [kset, iK_X4, iK_X5_lt, iK_X3_lt, hK0, Nat.add_assoc]) (by decide) (by decide)) ml_X6_11 im_X4_init ini_X4 cd_X4_init rfl (by decide +kernel) ⟨Nat.le_of_ble_eq_true rfl, Nat.le_of_ble_eq_true rfl⟩ ⟨rfl, rfl⟩ ⟨Nat.le_of_ble_eq_true rfl, Nat.le_of_ble_eq_true rfl⟩ (Nat.le_of_ble_eq_true rfl) dX6_init_105 rfl rfl ?_
  refine j_pF (q := 111) (ci := 4) (k := 8) h hini tyX6 tyX6_ok nmX6 uin_X6 rfl rfl (by decide) rfl rfl rfl (tyX6_ok 8 (by decide)) rfl rfl fl_X6_47 dX6_init_108 rfl (by simp [kset, iK_X4, iK_X5_lt, iK_X3_lt, hK0, Nat.add_assoc]) ?_
  exact j_vret0 h dX6_init_111
theorem iK_X6_lt {K : KT} {a b : Nat} (hb : b ≤ a) : iK_X6 K a b = K b := by
  have hne : ∀ k : Nat, 0 < k → ¬ b = a + k := fun k hk => by omega
  have hle : ∀ k : Nat, b ≤ a + k := fun k => by omega
  simp [iK_X6, kset, iK_X4, iK_X5_lt, iK_X3_lt, hne, hle, Nat.add_assoc]
theorem iP_X6_lt {P : PT} {a b : Nat} (hb : b < a) : iP_X6 P a b = P b := by
  have hne : ∀ k : Nat, ¬ b = a + k := fun k => by omega
  have hna : ¬ b = a := by omega
  have hlt : ∀ k : Nat, b < a + k := fun k => by omega
  funext j
  simp [iP_X6, pset, prow, iP_X4, iP_X5_lt, iP_X3_lt, hne, hna, hlt, Nat.add_assoc]
theorem iV_X6_lt {V : VT} {a b : Nat} (hb : b < a) : iV_X6 V a b = V b := by
  have hne : ∀ k : Nat, ¬ b = a + k := fun k => by omega
  have hna : ¬ b = a := by omega
  have hlt : ∀ k : Nat, b < a + k := fun k => by omega
  funext j
  simp [iV_X6, vset, vrow, adV, iV_X4, iV_X5_lt, iV_X3_lt, hne, hna, hlt, Nat.add_assoc]
def iK_X7 (K : KT) (a : Nat) : KT := (kset (kset (kset (kset (kset (kset (kset (kset (kset (kset (kset (kset (kset (kset (kset (kset K (a + 1) (.inr (0, 60))) (a + 2) (.inr (0, 5))) (a + 3) (.inr (0, 5))) (a + 4) (.inr (0, 5))) (a + 5) (.inr (0, 5))) (a + 6) (.inr (0, 30))) (a + 7) (.inr (0, 5))) (a + 8) (.inr (0, 12))) (a + 9) (.inr (0, 400))) (a + 10) (.inr (0, 1300))) (a + 11) (.inr (0, 12))) (a + 12) (.inr (0, 5))) (a + 13) (.inr (0, 5))) (a + 14) (.inr (0, 5))) (a + 15) (.inr (0, 140))) (a + 16) (.inr (1, 2)))
def iP_X7 (P : PT) (a : Nat) : PT := (pset (pset (pset (pset (pset (pset (pset (pset (pset (pset (pset (pset (pset (pset (pset (pset P a 1 (some (a + 1))) a 2 (some (a + 2))) a 3 (some (a + 3))) a 4 (some (a + 4))) a 5 (some (a + 5))) a 6 (some (a + 6))) a 8 (some (a + 7))) a 10 (some (a + 8))) a 12 (some (a + 9))) a 13 (some (a + 10))) a 15 (some (a + 11))) a 17 (some (a + 12))) a 18 (some (a + 13))) a 19 (some (a + 14))) a 20 (some (a + 15))) a 21 (some (a + 16)))
def iV_X7 (V : VT) (a : Nat) : VT := (vset (vset (vset (vset (vset (vset (vset (vset (vset (vset (vset (vrow (vrow (vrow (vrow (vrow (vrow (vrow (vrow (vrow (vset (vrow (vrow (vrow (vrow (vrow (vrow (vrow V (a + 1) (fun _ => 0)) (a + 2) (fun _ => 0)) (a + 3) (fun _ => 0)) (a + 4) (fun _ => 0)) (a + 5) (fun _ => 0)) (a + 6) (fun _ => 0)) (a + 7) (fun _ => 0)) a 9 (1 : Int32)) (a + 8) (fun _ => 0)) (a + 9) (fun _ => 0)) (a + 10) (fun _ => 0)) (a + 11) (fun _ => 0)) (a + 12) (fun _ => 0)) (a + 13) (fun _ => 0)) (a + 14) (fun _ => 0)) (a + 15) (fun _ => 0)) (a + 16) (fun _ => 0)) (a + 2) 0 (45 : Int32)) (a + 4) 0 (-6 : Int32)) (a + 2) 1 (45 : Int32)) (a + 4) 1 (-6 : Int32)) (a + 2) 2 (45 : Int32)) (a + 4) 2 (-6 : Int32)) (a + 2) 3 (45 : Int32)) (a + 4) 3 (-6 : Int32)) (a + 2) 4 (45 : Int32)) (a + 4) 4 (-6 : Int32)) (a + 8) 0 (120 : Int32))
def rm_X7_init : Room := { frames := 1, cells := 16, slots := 1996, locals := 12 }
set_option maxRecDepth 20000 in
theorem ct_X7_init (l : Launch) (D : va_G) (T : TT) {K : KT} {P : PT} {V : VT} {a sz : Nat} (hs : sz = a + 1) (hK0 : K a = some (.inl 5)) : CTs l D T sz yX7_init cX7_init 2 none rm_X7_init K P V [.ref a] none (iK_X7 K a) (iP_X7 P a) (iV_X7 V a) 16 (1996) := by
  refine CT_of pn_X7 (cat_a cat_0) (Nat.le_of_ble_eq_true rfl) [some (.ref a), none] rfl (fun g hsz hini h => ?_)
  have hini := hini rfl
  rw [hs] at hsz
  refine j_aload_n (q := 1) h dX7_init_0 rfl rfl ?_
  refine j_objInit (q := 4) h ml_X7_1o im_obj cd_obj ⟨Nat.le_of_ble_eq_true rfl, Nat.le_of_ble_eq_true rfl⟩ dX7_init_1 rfl ?_
  refine j_aload_n (q := 5) h dX7_init_4 rfl rfl ?_
  refine j_bipush (q := 7) (60) h dX7_init_5 kb_60 rfl ?_
  refine j_newa (q := 9) (N := 60) (a + 1) h (by omega) (by decide +kernel) (by decide) arI ⟨Nat.le_of_ble_eq_true rfl, Nat.le_of_ble_eq_true rfl⟩ dX7_init_7 rfl ?_
  refine j_pF (q := 12) (ci := 5) (k := 1) h hini tyX7 tyX7_ok nmX7 uin_X7 rfl rfl (by decide) rfl rfl rfl (tyX7_ok 1 (by decide)) rfl rfl fl_X7_7 dX7_init_9 rfl (by simp [kset, hK0, Nat.add_assoc]) ?_
  refine j_aload_n (q := 13) h dX7_init_12 rfl rfl ?_
  refine j_iconst (q := 14) (5) h dX7_init_13 ki_5 rfl ?_
  refine j_newa (q := 16) (N := 5) (a + 2) h (by omega) (by decide +kernel) (by decide) arI ⟨Nat.le_of_ble_eq_true rfl, Nat.le_of_ble_eq_true rfl⟩ dX7_init_14 rfl ?_
  refine j_pF (q := 19) (ci := 5) (k := 2) h hini tyX7 tyX7_ok nmX7 uin_X7 rfl rfl (by decide) rfl rfl rfl (tyX7_ok 2 (by decide)) rfl rfl fl_X7_13 dX7_init_16 rfl (by simp [kset, hK0, Nat.add_assoc]) ?_
  refine j_aload_n (q := 20) h dX7_init_19 rfl rfl ?_
  refine j_iconst (q := 21) (5) h dX7_init_20 ki_5 rfl ?_
  refine j_newa (q := 23) (N := 5) (a + 3) h (by omega) (by decide +kernel) (by decide) arI ⟨Nat.le_of_ble_eq_true rfl, Nat.le_of_ble_eq_true rfl⟩ dX7_init_21 rfl ?_
  refine j_pF (q := 26) (ci := 5) (k := 3) h hini tyX7 tyX7_ok nmX7 uin_X7 rfl rfl (by decide) rfl rfl rfl (tyX7_ok 3 (by decide)) rfl rfl fl_X7_16 dX7_init_23 rfl (by simp [kset, hK0, Nat.add_assoc]) ?_
  refine j_aload_n (q := 27) h dX7_init_26 rfl rfl ?_
  refine j_iconst (q := 28) (5) h dX7_init_27 ki_5 rfl ?_
  refine j_newa (q := 30) (N := 5) (a + 4) h (by omega) (by decide +kernel) (by decide) arI ⟨Nat.le_of_ble_eq_true rfl, Nat.le_of_ble_eq_true rfl⟩ dX7_init_28 rfl ?_
  refine j_pF (q := 33) (ci := 5) (k := 4) h hini tyX7 tyX7_ok nmX7 uin_X7 rfl rfl (by decide) rfl rfl rfl (tyX7_ok 4 (by decide)) rfl rfl fl_X7_19 dX7_init_30 rfl (by simp [kset, hK0, Nat.add_assoc]) ?_
  refine j_aload_n (q := 34) h dX7_init_33 rfl rfl ?_
  refine j_iconst (q := 35) (5) h dX7_init_34 ki_5 rfl ?_
  refine j_newa (q := 37) (N := 5) (a + 5) h (by omega) (by decide +kernel) (by decide) arI ⟨Nat.le_of_ble_eq_true rfl, Nat.le_of_ble_eq_true rfl⟩ dX7_init_35 rfl ?_
  refine j_pF (q := 40) (ci := 5) (k := 5) h hini tyX7 tyX7_ok nmX7 uin_X7 rfl rfl (by decide) rfl rfl rfl (tyX7_ok 5 (by decide)) rfl rfl fl_X7_22 dX7_init_37 rfl (by simp [kset, hK0, Nat.add_assoc]) ?_
  refine j_aload_n (q := 41) h dX7_init_40 rfl rfl ?_
  refine j_bipush (q := 43) (30) h dX7_init_41 kb_30 rfl ?_
  refine j_newa (q := 45) (N := 30) (a + 6) h (by omega) (by decide +kernel) (by decide) arI ⟨Nat.le_of_ble_eq_true rfl, Nat.le_of_ble_eq_true rfl⟩ dX7_init_43 rfl ?_
  refine j_pF (q := 48) (ci := 5) (k := 6) h hini tyX7 tyX7_ok nmX7 uin_X7 rfl rfl (by decide) rfl rfl rfl (tyX7_ok 6 (by decide)) rfl rfl fl_X7_25 dX7_init_45 rfl (by simp [kset, hK0, Nat.add_assoc]) ?_
  refine j_aload_n (q := 49) h dX7_init_48 rfl rfl ?_
  refine j_iconst (q := 50) (5) h dX7_init_49 ki_5 rfl ?_
  refine j_newa (q := 52) (N := 5) (a + 7) h (by omega) (by decide +kernel) (by decide) arI ⟨Nat.le_of_ble_eq_true rfl, Nat.le_of_ble_eq_true rfl⟩ dX7_init_50 rfl ?_
  refine j_pF (q := 55) (ci := 5) (k := 8) h hini tyX7 tyX7_ok nmX7 uin_X7 rfl rfl (by decide) rfl rfl rfl (tyX7_ok 8 (by decide)) rfl rfl fl_X7_28 dX7_init_52 rfl (by simp [kset, hK0, Nat.add_assoc]) ?_
  refine j_aload_n (q := 56) h dX7_init_55 rfl rfl ?_
  refine j_iconst (q := 57) (1) h dX7_init_56 ki_1 rfl ?_
  refine j_sIK (q := 60) (ci := 5) (k := 9) h tyX7 tyX7_ok nmX7 uin_X7 rfl rfl (by decide) rfl rfl (by decide +kernel) fl_X7_31 dX7_init_57 rfl (by simp [kset, hK0, Nat.add_assoc]) ?_
  refine j_aload_n (q := 61) h dX7_init_60 rfl rfl ?_
  refine j_bipush (q := 63) (12) h dX7_init_61 kb_12 rfl ?_
  refine j_newa (q := 65) (N := 12) (a + 8) h (by omega) (by decide +kernel) (by decide) arI ⟨Nat.le_of_ble_eq_true rfl, Nat.le_of_ble_eq_true rfl⟩ dX7_init_63 rfl ?_
  refine j_pF (q := 68) (ci := 5) (k := 10) h hini tyX7 tyX7_ok nmX7 uin_X7 rfl rfl (by decide) rfl rfl rfl (tyX7_ok 10 (by decide)) rfl rfl fl_X7_35 dX7_init_65 rfl (by simp [kset, hK0, Nat.add_assoc]) ?_
  refine j_aload_n (q := 69) h dX7_init_68 rfl rfl ?_
  refine j_sipush (q := 72) (400) h dX7_init_69 ks_400 rfl ?_
  refine j_newa (q := 74) (N := 400) (a + 9) h (by omega) (by decide +kernel) (by decide) arI ⟨Nat.le_of_ble_eq_true rfl, Nat.le_of_ble_eq_true rfl⟩ dX7_init_72 rfl ?_
  refine j_pF (q := 77) (ci := 5) (k := 12) h hini tyX7 tyX7_ok nmX7 uin_X7 rfl rfl (by decide) rfl rfl rfl (tyX7_ok 12 (by decide)) rfl rfl fl_X7_38 dX7_init_74 rfl (by simp [kset, hK0, Nat.add_assoc]) ?_
  refine j_aload_n (q := 78) h dX7_init_77 rfl rfl ?_
  refine j_sipush (q := 81) (1300) h dX7_init_78 ks_1300 rfl ?_
  refine j_newa (q := 83) (N := 1300) (a + 10) h (by omega) (by decide +kernel) (by decide) arI ⟨Nat.le_of_ble_eq_true rfl, Nat.le_of_ble_eq_true rfl⟩ dX7_init_81 rfl ?_
  refine j_pF (q := 86) (ci := 5) (k := 13) h hini tyX7 tyX7_ok nmX7 uin_X7 rfl rfl (by decide) rfl rfl rfl (tyX7_ok 13 (by decide)) rfl rfl fl_X7_41 dX7_init_83 rfl (by simp [kset, hK0, Nat.add_assoc]) ?_
  refine j_aload_n (q := 87) h dX7_init_86 rfl rfl ?_
  refine j_bipush (q := 89) (12) h dX7_init_87 kb_12 rfl ?_
  refine j_newa (q := 91) (N := 12) (a + 11) h (by omega) (by decide +kernel) (by decide) arI ⟨Nat.le_of_ble_eq_true rfl, Nat.le_of_ble_eq_true rfl⟩ dX7_init_89 rfl ?_
  refine j_pF (q := 94) (ci := 5) (k := 15) h hini tyX7 tyX7_ok nmX7 uin_X7 rfl rfl (by decide) rfl rfl rfl (tyX7_ok 15 (by decide)) rfl rfl fl_X7_44 dX7_init_91 rfl (by simp [kset, hK0, Nat.add_assoc]) ?_
  refine j_aload_n (q := 95) h dX7_init_94 rfl rfl ?_
  refine j_iconst (q := 96) (5) h dX7_init_95 ki_5 rfl ?_
  refine j_newa (q := 98) (N := 5) (a + 12) h (by omega) (by decide +kernel) (by decide) arI ⟨Nat.le_of_ble_eq_true rfl, Nat.le_of_ble_eq_true rfl⟩ dX7_init_96 rfl ?_
  refine j_pF (q := 101) (ci := 5) (k := 17) h hini tyX7 tyX7_ok nmX7 uin_X7 rfl rfl (by decide) rfl rfl rfl (tyX7_ok 17 (by decide)) rfl rfl fl_X7_47 dX7_init_98 rfl (by simp [kset, hK0, Nat.add_assoc]) ?_
  refine j_aload_n (q := 102) h dX7_init_101 rfl rfl ?_
  refine j_iconst (q := 103) (5) h dX7_init_102 ki_5 rfl ?_
  refine j_newa (q := 105) (N := 5) (a + 13) h (by omega) (by decide +kernel) (by decide) arI ⟨Nat.le_of_ble_eq_true rfl, Nat.le_of_ble_eq_true rfl⟩ dX7_init_103 rfl ?_
  refine j_pF (q := 108) (ci := 5) (k := 18) h hini tyX7 tyX7_ok nmX7 uin_X7 rfl rfl (by decide) rfl rfl rfl (tyX7_ok 18 (by decide)) rfl rfl fl_X7_50 dX7_init_105 rfl (by simp [kset, hK0, Nat.add_assoc]) ?_
  refine j_aload_n (q := 109) h dX7_init_108 rfl rfl ?_
  refine j_iconst (q := 110) (5) h dX7_init_109 ki_5 rfl ?_
  refine j_newa (q := 112) (N := 5) (a + 14) h (by omega) (by decide +kernel) (by decide) arI ⟨Nat.le_of_ble_eq_true rfl, Nat.le_of_ble_eq_true rfl⟩ dX7_init_110 rfl ?_
  refine j_pF (q := 115) (ci := 5) (k := 19) h hini tyX7 tyX7_ok nmX7 uin_X7 rfl rfl (by decide) rfl rfl rfl (tyX7_ok 19 (by decide)) rfl rfl fl_X7_53 dX7_init_112 rfl (by simp [kset, hK0, Nat.add_assoc]) ?_
  refine j_aload_n (q := 116) h dX7_init_115 rfl rfl ?_
  refine j_sipush (q := 119) (140) h dX7_init_116 ks_140 rfl ?_
  refine j_newa (q := 121) (N := 140) (a + 15) h (by omega) (by decide +kernel) (by decide) arI ⟨Nat.le_of_ble_eq_true rfl, Nat.le_of_ble_eq_true rfl⟩ dX7_init_119 rfl ?_
  refine j_pF (q := 124) (ci := 5) (k := 20) h hini tyX7 tyX7_ok nmX7 uin_X7 rfl rfl (by decide) rfl rfl rfl (tyX7_ok 20 (by decide)) rfl rfl fl_X7_56 dX7_init_121 rfl (by simp [kset, hK0, Nat.add_assoc]) ?_
  refine j_aload_n (q := 125) h dX7_init_124 rfl rfl ?_
  refine j_iconst (q := 126) (2) h dX7_init_125 ki_2 rfl ?_
  refine j_newz (q := 128) (N := 2) (a + 16) h (by omega) (by decide +kernel) (by decide) arZ ⟨Nat.le_of_ble_eq_true rfl, Nat.le_of_ble_eq_true rfl⟩ dX7_init_126 rfl ?_
  refine j_pF (q := 131) (ci := 5) (k := 21) h hini tyX7 tyX7_ok nmX7 uin_X7 rfl rfl (by decide) rfl rfl rfl (tyX7_ok 21 (by decide)) rfl rfl fl_X7_59 dX7_init_128 rfl (by simp [kset, hK0, Nat.add_assoc]) ?_
  refine j_iconst (q := 132) (0) h dX7_init_131 ki_0 rfl ?_
  refine j_istore_n (q := 133) [_, _] h dX7_init_132 rfl (by decide) rfl rfl ?_
  refine j_iload_n (q := 134) h dX7_init_133 rfl rfl ?_
  refine j_iconst (q := 135) (5) h dX7_init_134 ki_5 rfl ?_
  refine j_geF (q := 138) 160 h dX7_init_135 (by decide) rfl (by decide) ?_
  refine j_aload_n (q := 139) h dX7_init_138 rfl rfl ?_
  refine j_gRK (q := 142) (ci := 5) (k := 2) (b := a + 2) h uin_X7 rfl rfl (by decide) rfl fl_X7_13 dX7_init_139 rfl (by simp [kset, hK0, Nat.add_assoc]) (by simp [pset, prow, iP_X4, iP_X1_lt, Nat.add_assoc]) ?_
  refine j_iload_n (q := 143) h dX7_init_142 rfl rfl ?_
  refine j_bipush (q := 145) (45) h dX7_init_143 kb_45 rfl ?_
  refine j_sAK (q := 146) (N := 5) (j := 0) h dX7_init_145 rfl (by simp [kset, hK0, Nat.add_assoc]) (by decide +kernel) (by decide) ?_
  refine j_aload_n (q := 147) h dX7_init_146 rfl rfl ?_
  refine j_gRK (q := 150) (ci := 5) (k := 4) (b := a + 4) h uin_X7 rfl rfl (by decide) rfl fl_X7_19 dX7_init_147 rfl (by simp [kset, hK0, Nat.add_assoc]) (by simp [pset, prow, iP_X4, iP_X1_lt, Nat.add_assoc]) ?_
  refine j_iload_n (q := 151) h dX7_init_150 rfl rfl ?_
  refine j_bipush (q := 153) (-6) h dX7_init_151 kb_m6 rfl ?_
  refine j_sAK (q := 154) (N := 5) (j := 0) h dX7_init_153 rfl (by simp [kset, hK0, Nat.add_assoc]) (by decide +kernel) (by decide) ?_
  refine j_iinc (q := 157) (1) [_, _] h dX7_init_154 rfl (by decide) rfl kq_1 rfl rfl ?_
  refine j_goto 133 h dX7_init_157 (by decide) ?_
  refine j_iload_n (q := 134) h dX7_init_133 rfl rfl ?_
  refine j_iconst (q := 135) (5) h dX7_init_134 ki_5 rfl ?_
  refine j_geF (q := 138) 160 h dX7_init_135 (by decide) rfl (by decide) ?_
  refine j_aload_n (q := 139) h dX7_init_138 rfl rfl ?_
  refine j_gRK (q := 142) (ci := 5) (k := 2) (b := a + 2) h uin_X7 rfl rfl (by decide) rfl fl_X7_13 dX7_init_139 rfl (by simp [kset, hK0, Nat.add_assoc]) (by simp [pset, prow, iP_X4, iP_X1_lt, Nat.add_assoc]) ?_
  refine j_iload_n (q := 143) h dX7_init_142 rfl rfl ?_
  refine j_bipush (q := 145) (45) h dX7_init_143 kb_45 rfl ?_
  refine j_sAK (q := 146) (N := 5) (j := 1) h dX7_init_145 rfl (by simp [kset, hK0, Nat.add_assoc]) (by decide +kernel) (by decide) ?_
  refine j_aload_n (q := 147) h dX7_init_146 rfl rfl ?_
  refine j_gRK (q := 150) (ci := 5) (k := 4) (b := a + 4) h uin_X7 rfl rfl (by decide) rfl fl_X7_19 dX7_init_147 rfl (by simp [kset, hK0, Nat.add_assoc]) (by simp [pset, prow, iP_X4, iP_X1_lt, Nat.add_assoc]) ?_
  refine j_iload_n (q := 151) h dX7_init_150 rfl rfl ?_
  refine j_bipush (q := 153) (-6) h dX7_init_151 kb_m6 rfl ?_
  refine j_sAK (q := 154) (N := 5) (j := 1) h dX7_init_153 rfl (by simp [kset, hK0, Nat.add_assoc]) (by decide +kernel) (by decide) ?_
  refine j_iinc (q := 157) (2) [_, _] h dX7_init_154 rfl (by decide) rfl kq_2 rfl rfl ?_
  refine j_goto 133 h dX7_init_157 (by decide) ?_
  refine j_iload_n (q := 134) h dX7_init_133 rfl rfl ?_
  refine j_iconst (q := 135) (5) h dX7_init_134 ki_5 rfl ?_
  refine j_geF (q := 138) 160 h dX7_init_135 (by decide) rfl (by decide) ?_
  refine j_aload_n (q := 139) h dX7_init_138 rfl rfl ?_
  refine j_gRK (q := 142) (ci := 5) (k := 2) (b := a + 2) h uin_X7 rfl rfl (by decide) rfl fl_X7_13 dX7_init_139 rfl (by simp [kset, hK0, Nat.add_assoc]) (by simp [pset, prow, iP_X4, iP_X1_lt, Nat.add_assoc]) ?_
  refine j_iload_n (q := 143) h dX7_init_142 rfl rfl ?_
  refine j_bipush (q := 145) (45) h dX7_init_143 kb_45 rfl ?_
  refine j_sAK (q := 146) (N := 5) (j := 2) h dX7_init_145 rfl (by simp [kset, hK0, Nat.add_assoc]) (by decide +kernel) (by decide) ?_
  refine j_aload_n (q := 147) h dX7_init_146 rfl rfl ?_
  refine j_gRK (q := 150) (ci := 5) (k := 4) (b := a + 4) h uin_X7 rfl rfl (by decide) rfl fl_X7_19 dX7_init_147 rfl (by simp [kset, hK0, Nat.add_assoc]) (by simp [pset, prow, iP_X4, iP_X1_lt, Nat.add_assoc]) ?_
  refine j_iload_n (q := 151) h dX7_init_150 rfl rfl ?_
  refine j_bipush (q := 153) (-6) h dX7_init_151 kb_m6 rfl ?_
  refine j_sAK (q := 154) (N := 5) (j := 2) h dX7_init_153 rfl (by simp [kset, hK0, Nat.add_assoc]) (by decide +kernel) (by decide) ?_
  refine j_iinc (q := 157) (3) [_, _] h dX7_init_154 rfl (by decide) rfl kq_3 rfl rfl ?_
  refine j_goto 133 h dX7_init_157 (by decide) ?_
  refine j_iload_n (q := 134) h dX7_init_133 rfl rfl ?_
  refine j_iconst (q := 135) (5) h dX7_init_134 ki_5 rfl ?_
  refine j_geF (q := 138) 160 h dX7_init_135 (by decide) rfl (by decide) ?_
  refine j_aload_n (q := 139) h dX7_init_138 rfl rfl ?_
  refine j_gRK (q := 142) (ci := 5) (k := 2) (b := a + 2) h uin_X7 rfl rfl (by decide) rfl fl_X7_13 dX7_init_139 rfl (by simp [kset, hK0, Nat.add_assoc]) (by simp [pset, prow, iP_X4, iP_X1_lt, Nat.add_assoc]) ?_
  refine j_iload_n (q := 143) h dX7_init_142 rfl rfl ?_
  refine j_bipush (q := 145) (45) h dX7_init_143 kb_45 rfl ?_
  refine j_sAK (q := 146) (N := 5) (j := 3) h dX7_init_145 rfl (by simp [kset, hK0, Nat.add_assoc]) (by decide +kernel) (by decide) ?_
  refine j_aload_n (q := 147) h dX7_init_146 rfl rfl ?_
  refine j_gRK (q := 150) (ci := 5) (k := 4) (b := a + 4) h uin_X7 rfl rfl (by decide) rfl fl_X7_19 dX7_init_147 rfl (by simp [kset, hK0, Nat.add_assoc]) (by simp [pset, prow, iP_X4, iP_X1_lt, Nat.add_assoc]) ?_
  refine j_iload_n (q := 151) h dX7_init_150 rfl rfl ?_
  refine j_bipush (q := 153) (-6) h dX7_init_151 kb_m6 rfl ?_
  refine j_sAK (q := 154) (N := 5) (j := 3) h dX7_init_153 rfl (by simp [kset, hK0, Nat.add_assoc]) (by decide +kernel) (by decide) ?_
  refine j_iinc (q := 157) (4) [_, _] h dX7_init_154 rfl (by decide) rfl kq_4 rfl rfl ?_
  refine j_goto 133 h dX7_init_157 (by decide) ?_
  refine j_iload_n (q := 134) h dX7_init_133 rfl rfl ?_
  refine j_iconst (q := 135) (5) h dX7_init_134 ki_5 rfl ?_
  refine j_geF (q := 138) 160 h dX7_init_135 (by decide) rfl (by decide) ?_
  refine j_aload_n (q := 139) h dX7_init_138 rfl rfl ?_
  refine j_gRK (q := 142) (ci := 5) (k := 2) (b := a + 2) h uin_X7 rfl rfl (by decide) rfl fl_X7_13 dX7_init_139 rfl (by simp [kset, hK0, Nat.add_assoc]) (by simp [pset, prow, iP_X4, iP_X1_lt, Nat.add_assoc]) ?_
  refine j_iload_n (q := 143) h dX7_init_142 rfl rfl ?_
  refine j_bipush (q := 145) (45) h dX7_init_143 kb_45 rfl ?_
  refine j_sAK (q := 146) (N := 5) (j := 4) h dX7_init_145 rfl (by simp [kset, hK0, Nat.add_assoc]) (by decide +kernel) (by decide) ?_
  refine j_aload_n (q := 147) h dX7_init_146 rfl rfl ?_
  refine j_gRK (q := 150) (ci := 5) (k := 4) (b := a + 4) h uin_X7 rfl rfl (by decide) rfl fl_X7_19 dX7_init_147 rfl (by simp [kset, hK0, Nat.add_assoc]) (by simp [pset, prow, iP_X4, iP_X1_lt, Nat.add_assoc]) ?_
  refine j_iload_n (q := 151) h dX7_init_150 rfl rfl ?_
  refine j_bipush (q := 153) (-6) h dX7_init_151 kb_m6 rfl ?_
  refine j_sAK (q := 154) (N := 5) (j := 4) h dX7_init_153 rfl (by simp [kset, hK0, Nat.add_assoc]) (by decide +kernel) (by decide) ?_
  refine j_iinc (q := 157) (5) [_, _] h dX7_init_154 rfl (by decide) rfl kq_5 rfl rfl ?_
  refine j_goto 133 h dX7_init_157 (by decide) ?_
  refine j_iload_n (q := 134) h dX7_init_133 rfl rfl ?_
  refine j_iconst (q := 135) (5) h dX7_init_134 ki_5 rfl ?_
  refine j_geT 160 h dX7_init_135 (by decide) (by decide) ?_
  refine j_aload_n (q := 161) h dX7_init_160 rfl rfl ?_
  refine j_gRK (q := 164) (ci := 5) (k := 10) (b := a + 8) h uin_X7 rfl rfl (by decide) rfl fl_X7_35 dX7_init_161 rfl (by simp [kset, hK0, Nat.add_assoc]) (by simp [pset, prow, iP_X4, iP_X1_lt, Nat.add_assoc]) ?_
  refine j_iconst (q := 165) (0) h dX7_init_164 ki_0 rfl ?_
  refine j_bipush (q := 167) (120) h dX7_init_165 kb_120 rfl ?_
  refine j_sAK (q := 168) (N := 12) (j := 0) h dX7_init_167 rfl (by simp [kset, hK0, Nat.add_assoc]) (by decide +kernel) (by decide) ?_
  exact j_vret0 h dX7_init_168
theorem iK_X7_lt {K : KT} {a b : Nat} (hb : b ≤ a) : iK_X7 K a b = K b := by
  have hne : ∀ k : Nat, 0 < k → ¬ b = a + k := fun k hk => by omega
  have hle : ∀ k : Nat, b ≤ a + k := fun k => by omega
  simp [iK_X7, kset, hne, hle, Nat.add_assoc]
theorem iP_X7_lt {P : PT} {a b : Nat} (hb : b < a) : iP_X7 P a b = P b := by
  have hne : ∀ k : Nat, ¬ b = a + k := fun k => by omega
  have hna : ¬ b = a := by omega
  have hlt : ∀ k : Nat, b < a + k := fun k => by omega
  funext j
  simp [iP_X7, pset, prow, hne, hna, hlt, Nat.add_assoc]
theorem iV_X7_lt {V : VT} {a b : Nat} (hb : b < a) : iV_X7 V a b = V b := by
  have hne : ∀ k : Nat, ¬ b = a + k := fun k => by omega
  have hna : ¬ b = a := by omega
  have hlt : ∀ k : Nat, b < a + k := fun k => by omega
  funext j
  simp [iV_X7, vset, vrow, adV, hne, hna, hlt, Nat.add_assoc]
